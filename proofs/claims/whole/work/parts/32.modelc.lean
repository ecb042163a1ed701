def FX9_writesAt_57  (w : HS) (v0 : Nat) (v2 : Int32) (v3 : Int32) (v4 : Int32) : Option (Unit × HS) :=
  (FX9_writes w v0 v3 v2).bind fun q1 =>
  (if v4 = (98 : Int32) then (if v3 = (ha q1.2 v0 16 2) then ((FX9_writes q1.2 v0 (ha q1.2 v0 16 3) v2).bind fun q7 =>
  (some ((), q7.2))) else
  (some ((), q1.2))) else
  (some ((), q1.2)))
set_option maxHeartbeats 4000000 in
set_option maxRecDepth 100000 in
theorem rX9_writesAt_57 {ar : Nat → Nat → Nat} {c0 : Nat → Nat} {sz : Nat} {r : Unit} {w' : HS}   {g : PH} {w : HS} {v0 : Nat} {v2 : Int32} {v3 : Int32} {v4 : Int32} (h0 : c0 v0 = 9) (P : Rel ar c0 sz g w) (hF : FX9_writesAt_57  w v0 v2 v3 v4 = some (r, w')) : GR ar c0 sz r w' (fX9_writesAt_57  g v0 v2 v3 v4) := by
  unfold FX9_writesAt_57 at hF
  unfold fX9_writesAt_57
  replace hF := ob_some hF
  obtain ⟨q1, h2, hF⟩ := hF
  obtain ⟨g3, e4, P⟩ := rX9_writes (r := q1.1) (w' := q1.2) P h2
  refine GR.bind e4 ?_
  by_cases c5 : v4 = (98 : Int32)
  · replace hF := ite_t c5 hF
    refine GR.t c5 ?_
    refine GR.bind (P.getRa (k := 16) h0 (by decide) (by decide) (by decide)) ?_
    refine GR.bind (P.dI (k := 16) (n := 2) h0 (by decide) (by decide) (by decide) (by decide) (by decide) (by decide)) ?_
    by_cases c6 : v3 = (ha q1.2 v0 16 2)
    · replace hF := ite_t c6 hF
      refine GR.t c6 ?_
      refine GR.bind (P.getRa (k := 16) h0 (by decide) (by decide) (by decide)) ?_
      refine GR.bind (P.dI (k := 16) (n := 3) h0 (by decide) (by decide) (by decide) (by decide) (by decide) (by decide)) ?_
      replace hF := ob_some hF
      obtain ⟨q7, h8, hF⟩ := hF
      obtain ⟨g9, e10, P⟩ := rX9_writes (r := q7.1) (w' := q7.2) P h8
      refine GR.bind e10 ?_
      obtain ⟨f1, f2⟩ := finW hF
      subst f1
      subst f2
      exact GR.ret P
    replace hF := ite_f c6 hF
    refine GR.f c6 ?_
    obtain ⟨f1, f2⟩ := finW hF
    subst f1
    subst f2
    exact GR.ret P
  replace hF := ite_f c5 hF
  refine GR.f c5 ?_
  obtain ⟨f1, f2⟩ := finW hF
  subst f1
  subst f2
  exact GR.ret P
def FX9_writesAt_33  (w : HS) (v0 : Nat) (v2 : Int32) (v3 : Int32) (v4 : Int32) : Option (Unit × HS) :=
  if v4 = (109 : Int32) then (if v3 = (ha w v0 16 2) then (FX9_writesAt_57 w v0 v2 (ha w v0 16 3) v4) else
  (FX9_writesAt_57 w v0 v2 v3 v4)) else
  (FX9_writesAt_57 w v0 v2 v3 v4)
set_option maxHeartbeats 4000000 in
set_option maxRecDepth 100000 in
theorem rX9_writesAt_33 {ar : Nat → Nat → Nat} {c0 : Nat → Nat} {sz : Nat} {r : Unit} {w' : HS}   {g : PH} {w : HS} {v0 : Nat} {v2 : Int32} {v3 : Int32} {v4 : Int32} (h0 : c0 v0 = 9) (P : Rel ar c0 sz g w) (hF : FX9_writesAt_33  w v0 v2 v3 v4 = some (r, w')) : GR ar c0 sz r w' (fX9_writesAt_33  g v0 v2 v3 v4) := by
  unfold FX9_writesAt_33 at hF
  unfold fX9_writesAt_33
  by_cases c1 : v4 = (109 : Int32)
  · replace hF := ite_t c1 hF
    refine GR.t c1 ?_
    refine GR.bind (P.getRa (k := 16) h0 (by decide) (by decide) (by decide)) ?_
    refine GR.bind (P.dI (k := 16) (n := 2) h0 (by decide) (by decide) (by decide) (by decide) (by decide) (by decide)) ?_
    by_cases c2 : v3 = (ha w v0 16 2)
    · replace hF := ite_t c2 hF
      refine GR.t c2 ?_
      refine GR.bind (P.getRa (k := 16) h0 (by decide) (by decide) (by decide)) ?_
      refine GR.bind (P.dI (k := 16) (n := 3) h0 (by decide) (by decide) (by decide) (by decide) (by decide) (by decide)) ?_
      exact rX9_writesAt_57  h0 P hF
    replace hF := ite_f c2 hF
    refine GR.f c2 ?_
    exact rX9_writesAt_57  h0 P hF
  replace hF := ite_f c1 hF
  refine GR.f c1 ?_
  exact rX9_writesAt_57  h0 P hF
def FX9_writesAt (w : HS) (a0 : Nat) (a1 : Int32) (a2 : Int32) : Option (Unit × HS) :=
  okb (hc w a0 == 9) (okb (inb ((4 : Int32) + a1) 133) ((FX9_letterIn w a0).bind fun q2 =>
  (if q2.1 = (110 : Int32) then (if (ha w a0 16 ((4 : Int32) + a1).toNatClampNeg) = (ha q2.2 a0 16 3) then (some ((), q2.2)) else
  (FX9_writesAt_33 q2.2 a0 a2 (ha w a0 16 ((4 : Int32) + a1).toNatClampNeg) q2.1)) else
  (FX9_writesAt_33 q2.2 a0 a2 (ha w a0 16 ((4 : Int32) + a1).toNatClampNeg) q2.1))))
set_option maxHeartbeats 4000000 in
set_option maxRecDepth 100000 in
theorem rX9_writesAt {ar : Nat → Nat → Nat} {c0 : Nat → Nat} {sz : Nat} {g : PH} {w w' : HS} {a0 : Nat} {a1 : Int32} {a2 : Int32} {r : Unit} (P : Rel ar c0 sz g w) (hF : FX9_writesAt w a0 a1 a2 = some (r, w')) : GR ar c0 sz r w' (fX9_writesAt g a0 a1 a2) := by
  unfold FX9_writesAt at hF
  unfold fX9_writesAt
  replace hF := okb_some hF
  obtain ⟨h0, hF⟩ := hF
  replace h0 := P.cls h0
  refine GR.ok (P.rO h0 (by decide)) ?_
  refine GR.bind (P.getRa (k := 16) h0 (by decide) (by decide) (by decide)) ?_
  replace hF := okb_some hF
  obtain ⟨h1, hF⟩ := hF
  refine GR.bind (P.dI (k := 16) (n := ((4 : Int32) + a1).toNatClampNeg) h0 (by decide) (by decide) (by decide) (by decide) h1 rfl) ?_
  replace hF := ob_some hF
  obtain ⟨q2, h3, hF⟩ := hF
  obtain ⟨g4, e5, P⟩ := rX9_letterIn (r := q2.1) (w' := q2.2) P h3
  refine GR.bind e5 ?_
  by_cases c6 : q2.1 = (110 : Int32)
  · replace hF := ite_t c6 hF
    refine GR.t c6 ?_
    refine GR.bind (P.getRa (k := 16) h0 (by decide) (by decide) (by decide)) ?_
    refine GR.bind (P.dI (k := 16) (n := 3) h0 (by decide) (by decide) (by decide) (by decide) (by decide) (by decide)) ?_
    by_cases c7 : (ha w a0 16 ((4 : Int32) + a1).toNatClampNeg) = (ha q2.2 a0 16 3)
    · replace hF := ite_t c7 hF
      refine GR.t c7 ?_
      obtain ⟨f1, f2⟩ := finW hF
      subst f1
      subst f2
      exact GR.ret P
    replace hF := ite_f c7 hF
    refine GR.f c7 ?_
    exact rX9_writesAt_33  h0 P hF
  replace hF := ite_f c6 hF
  refine GR.f c6 ?_
  exact rX9_writesAt_33  h0 P hF
def FX9_readsAt_60  (w : HS) (v0 : Nat) (v2 : Int32) (v3 : Int32) : Option (Int32 × HS) :=
  (FX9_reads w v0 v2).bind fun q1 =>
  (if v3 = (98 : Int32) then (if v2 = (ha q1.2 v0 16 2) then ((FX9_reads q1.2 v0 (ha q1.2 v0 16 3)).bind fun q7 =>
  ((FX9_toldBy q7.2 v0 (0 : Int32) (3 : Int32)).bind fun q11 =>
  (if q11.1 = (1 : Int32) then (some ((q1.1 ||| q7.1), q11.2)) else
  (some ((q1.1 &&& q7.1), q11.2))))) else
  (some (q1.1, q1.2))) else
  (some (q1.1, q1.2)))
set_option maxHeartbeats 4000000 in
set_option maxRecDepth 100000 in
theorem rX9_readsAt_60 {ar : Nat → Nat → Nat} {c0 : Nat → Nat} {sz : Nat} {r : Int32} {w' : HS}   {g : PH} {w : HS} {v0 : Nat} {v2 : Int32} {v3 : Int32} (h0 : c0 v0 = 9) (P : Rel ar c0 sz g w) (hF : FX9_readsAt_60  w v0 v2 v3 = some (r, w')) : GR ar c0 sz r w' (fX9_readsAt_60  g v0 v2 v3) := by
  unfold FX9_readsAt_60 at hF
  unfold fX9_readsAt_60
  replace hF := ob_some hF
  obtain ⟨q1, h2, hF⟩ := hF
  obtain ⟨g3, e4, P⟩ := rX9_reads (r := q1.1) (w' := q1.2) P h2
  refine GR.bind e4 ?_
  by_cases c5 : v3 = (98 : Int32)
  · replace hF := ite_t c5 hF
    refine GR.t c5 ?_
    refine GR.bind (P.getRa (k := 16) h0 (by decide) (by decide) (by decide)) ?_
    refine GR.bind (P.dI (k := 16) (n := 2) h0 (by decide) (by decide) (by decide) (by decide) (by decide) (by decide)) ?_
    by_cases c6 : v2 = (ha q1.2 v0 16 2)
    · replace hF := ite_t c6 hF
      refine GR.t c6 ?_
      refine GR.bind (P.getRa (k := 16) h0 (by decide) (by decide) (by decide)) ?_
      refine GR.bind (P.dI (k := 16) (n := 3) h0 (by decide) (by decide) (by decide) (by decide) (by decide) (by decide)) ?_
      replace hF := ob_some hF
      obtain ⟨q7, h8, hF⟩ := hF
      obtain ⟨g9, e10, P⟩ := rX9_reads (r := q7.1) (w' := q7.2) P h8
      refine GR.bind e10 ?_
      replace hF := ob_some hF
      obtain ⟨q11, h12, hF⟩ := hF
      obtain ⟨g13, e14, P⟩ := rX9_toldBy (r := q11.1) (w' := q11.2) P h12
      refine GR.bind e14 ?_
      by_cases c15 : q11.1 = (1 : Int32)
      · replace hF := ite_t c15 hF
        refine GR.t c15 ?_
        obtain ⟨f1, f2⟩ := finW hF
        subst f1
        subst f2
        exact GR.ret P
      replace hF := ite_f c15 hF
      refine GR.f c15 ?_
      obtain ⟨f1, f2⟩ := finW hF
      subst f1
      subst f2
      exact GR.ret P
    replace hF := ite_f c6 hF
    refine GR.f c6 ?_
    obtain ⟨f1, f2⟩ := finW hF
    subst f1
    subst f2
    exact GR.ret P
  replace hF := ite_f c5 hF
  refine GR.f c5 ?_
  obtain ⟨f1, f2⟩ := finW hF
  subst f1
  subst f2
  exact GR.ret P
def FX9_readsAt_37  (w : HS) (v0 : Nat) (v2 : Int32) (v3 : Int32) : Option (Int32 × HS) :=
  if v3 = (109 : Int32) then (if v2 = (ha w v0 16 2) then (FX9_readsAt_60 w v0 (ha w v0 16 3) v3) else
  (FX9_readsAt_60 w v0 v2 v3)) else
  (FX9_readsAt_60 w v0 v2 v3)
set_option maxHeartbeats 4000000 in
set_option maxRecDepth 100000 in
theorem rX9_readsAt_37 {ar : Nat → Nat → Nat} {c0 : Nat → Nat} {sz : Nat} {r : Int32} {w' : HS}   {g : PH} {w : HS} {v0 : Nat} {v2 : Int32} {v3 : Int32} (h0 : c0 v0 = 9) (P : Rel ar c0 sz g w) (hF : FX9_readsAt_37  w v0 v2 v3 = some (r, w')) : GR ar c0 sz r w' (fX9_readsAt_37  g v0 v2 v3) := by
  unfold FX9_readsAt_37 at hF
  unfold fX9_readsAt_37
  by_cases c1 : v3 = (109 : Int32)
  · replace hF := ite_t c1 hF
    refine GR.t c1 ?_
    refine GR.bind (P.getRa (k := 16) h0 (by decide) (by decide) (by decide)) ?_
    refine GR.bind (P.dI (k := 16) (n := 2) h0 (by decide) (by decide) (by decide) (by decide) (by decide) (by decide)) ?_
    by_cases c2 : v2 = (ha w v0 16 2)
    · replace hF := ite_t c2 hF
      refine GR.t c2 ?_
      refine GR.bind (P.getRa (k := 16) h0 (by decide) (by decide) (by decide)) ?_
      refine GR.bind (P.dI (k := 16) (n := 3) h0 (by decide) (by decide) (by decide) (by decide) (by decide) (by decide)) ?_
      exact rX9_readsAt_60  h0 P hF
    replace hF := ite_f c2 hF
    refine GR.f c2 ?_
    exact rX9_readsAt_60  h0 P hF
  replace hF := ite_f c1 hF
  refine GR.f c1 ?_
  exact rX9_readsAt_60  h0 P hF
def FX9_readsAt (w : HS) (a0 : Nat) (a1 : Int32) : Option (Int32 × HS) :=
  okb (hc w a0 == 9) (okb (inb ((4 : Int32) + a1) 133) ((FX9_letterIn w a0).bind fun q2 =>
  (if q2.1 = (110 : Int32) then (if (ha w a0 16 ((4 : Int32) + a1).toNatClampNeg) = (ha q2.2 a0 16 3) then ((FX9_toldBy q2.2 a0 (0 : Int32) (3 : Int32)).bind fun q8 =>
  (some (q8.1, q8.2))) else
  (FX9_readsAt_37 q2.2 a0 (ha w a0 16 ((4 : Int32) + a1).toNatClampNeg) q2.1)) else
  (FX9_readsAt_37 q2.2 a0 (ha w a0 16 ((4 : Int32) + a1).toNatClampNeg) q2.1))))
set_option maxHeartbeats 4000000 in
set_option maxRecDepth 100000 in
theorem rX9_readsAt {ar : Nat → Nat → Nat} {c0 : Nat → Nat} {sz : Nat} {g : PH} {w w' : HS} {a0 : Nat} {a1 : Int32} {r : Int32} (P : Rel ar c0 sz g w) (hF : FX9_readsAt w a0 a1 = some (r, w')) : GR ar c0 sz r w' (fX9_readsAt g a0 a1) := by
  unfold FX9_readsAt at hF
  unfold fX9_readsAt
  replace hF := okb_some hF
  obtain ⟨h0, hF⟩ := hF
  replace h0 := P.cls h0
  refine GR.ok (P.rO h0 (by decide)) ?_
  refine GR.bind (P.getRa (k := 16) h0 (by decide) (by decide) (by decide)) ?_
  replace hF := okb_some hF
  obtain ⟨h1, hF⟩ := hF
  refine GR.bind (P.dI (k := 16) (n := ((4 : Int32) + a1).toNatClampNeg) h0 (by decide) (by decide) (by decide) (by decide) h1 rfl) ?_
  replace hF := ob_some hF
  obtain ⟨q2, h3, hF⟩ := hF
  obtain ⟨g4, e5, P⟩ := rX9_letterIn (r := q2.1) (w' := q2.2) P h3
  refine GR.bind e5 ?_
  by_cases c6 : q2.1 = (110 : Int32)
  · replace hF := ite_t c6 hF
    refine GR.t c6 ?_
    refine GR.bind (P.getRa (k := 16) h0 (by decide) (by decide) (by decide)) ?_
    refine GR.bind (P.dI (k := 16) (n := 3) h0 (by decide) (by decide) (by decide) (by decide) (by decide) (by decide)) ?_
    by_cases c7 : (ha w a0 16 ((4 : Int32) + a1).toNatClampNeg) = (ha q2.2 a0 16 3)
    · replace hF := ite_t c7 hF
      refine GR.t c7 ?_
      replace hF := ob_some hF
      obtain ⟨q8, h9, hF⟩ := hF
      obtain ⟨g10, e11, P⟩ := rX9_toldBy (r := q8.1) (w' := q8.2) P h9
      refine GR.bind e11 ?_
      obtain ⟨f1, f2⟩ := finW hF
      subst f1
      subst f2
      exact GR.ret P
    replace hF := ite_f c7 hF
    refine GR.f c7 ?_
    exact rX9_readsAt_37  h0 P hF
  replace hF := ite_f c6 hF
  refine GR.f c6 ?_
  exact rX9_readsAt_37  h0 P hF
def FX9_readsFor_47  (w : HS) (v0 : Nat) : Option (Unit × HS) :=
  bnd (setI w v0 20 ((hi w v0 20) + (1 : Int32))) fun w1 =>
  (bnd (setI w1 v0 22 ((hi w1 v0 22) + (1 : Int32))) fun w5 =>
  (some ((), w5)))
set_option maxHeartbeats 4000000 in
set_option maxRecDepth 100000 in
theorem rX9_readsFor_47 {ar : Nat → Nat → Nat} {c0 : Nat → Nat} {sz : Nat} {r : Unit} {w' : HS}   {g : PH} {w : HS} {v0 : Nat} (h0 : c0 v0 = 9) (P : Rel ar c0 sz g w) (hF : FX9_readsFor_47  w v0 = some (r, w')) : GR ar c0 sz r w' (fX9_readsFor_47  g v0) := by
  unfold FX9_readsFor_47 at hF
  unfold fX9_readsFor_47
  refine GR.bind (P.rI (k := 20) h0 (by decide) (by decide) (by decide)) ?_
  replace hF := bnd_e hF
  obtain ⟨w1, e2, hF⟩ := hF
  obtain ⟨g3, e4, P⟩ := P.putI (k := 20) h0 (by decide) (by decide) (by decide) e2
  refine GR.bind e4 ?_
  refine GR.bind (P.rI (k := 22) h0 (by decide) (by decide) (by decide)) ?_
  replace hF := bnd_e hF
  obtain ⟨w5, e6, hF⟩ := hF
  obtain ⟨g7, e8, P⟩ := P.putI (k := 22) h0 (by decide) (by decide) (by decide) e6
  refine GR.bind e8 ?_
  obtain ⟨f1, f2⟩ := finW hF
  subst f1
  subst f2
  exact GR.ret P
def FX9_readsFor (w : HS) (a0 : Nat) (a1 : Int32) (a2 : Int32) : Option (Unit × HS) :=
  okb (hc w a0 == 9) ((FX9_readsAt w a0 a1).bind fun q1 =>
  (if q1.1 = a2 then (bnd (setI q1.2 a0 22 ((hi q1.2 a0 22) + (1 : Int32))) fun w6 =>
  (some ((), w6))) else
  (if (60 : Int32) ≤ (hi q1.2 a0 20) then (FX9_readsFor_47 q1.2 a0) else
  (okb (inb ((2 : Int32) * (hi q1.2 a0 20)) 120) (bnd (setA q1.2 a0 21 ((2 : Int32) * (hi q1.2 a0 20)).toNatClampNeg (hi q1.2 a0 22)) fun w14 =>
  (okb (inb (((2 : Int32) * (hi w14 a0 20)) + (1 : Int32)) 120) (bnd (setA w14 a0 21 (((2 : Int32) * (hi w14 a0 20)) + (1 : Int32)).toNatClampNeg a1) fun w19 =>
  (FX9_readsFor_47 w19 a0))))))))
set_option maxHeartbeats 4000000 in
set_option maxRecDepth 100000 in
theorem rX9_readsFor {ar : Nat → Nat → Nat} {c0 : Nat → Nat} {sz : Nat} {g : PH} {w w' : HS} {a0 : Nat} {a1 : Int32} {a2 : Int32} {r : Unit} (P : Rel ar c0 sz g w) (hF : FX9_readsFor w a0 a1 a2 = some (r, w')) : GR ar c0 sz r w' (fX9_readsFor g a0 a1 a2) := by
  unfold FX9_readsFor at hF
  unfold fX9_readsFor
  replace hF := okb_some hF
  obtain ⟨h0, hF⟩ := hF
  replace h0 := P.cls h0
  refine GR.ok (P.rO h0 (by decide)) ?_
  replace hF := ob_some hF
  obtain ⟨q1, h2, hF⟩ := hF
  obtain ⟨g3, e4, P⟩ := rX9_readsAt (r := q1.1) (w' := q1.2) P h2
  refine GR.bind e4 ?_
  by_cases c5 : q1.1 = a2
  · replace hF := ite_t c5 hF
    refine GR.t c5 ?_
    refine GR.bind (P.rI (k := 22) h0 (by decide) (by decide) (by decide)) ?_
    replace hF := bnd_e hF
    obtain ⟨w6, e7, hF⟩ := hF
    obtain ⟨g8, e9, P⟩ := P.putI (k := 22) h0 (by decide) (by decide) (by decide) e7
    refine GR.bind e9 ?_
    obtain ⟨f1, f2⟩ := finW hF
    subst f1
    subst f2
    exact GR.ret P
  replace hF := ite_f c5 hF
  refine GR.f c5 ?_
  refine GR.bind (P.rI (k := 20) h0 (by decide) (by decide) (by decide)) ?_
  by_cases c10 : (60 : Int32) ≤ (hi q1.2 a0 20)
  · replace hF := ite_t c10 hF
    refine GR.t c10 ?_
    exact rX9_readsFor_47  h0 P hF
  replace hF := ite_f c10 hF
  refine GR.f c10 ?_
  refine GR.bind (P.getRa (k := 21) h0 (by decide) (by decide) (by decide)) ?_
  refine GR.bind (P.rI (k := 20) h0 (by decide) (by decide) (by decide)) ?_
  refine GR.bind (P.rI (k := 22) h0 (by decide) (by decide) (by decide)) ?_
  replace hF := okb_some hF
  obtain ⟨h11, hF⟩ := hF
  replace hF := bnd_e hF
  obtain ⟨w14, e15, hF⟩ := hF
  obtain ⟨g12, e13, P⟩ := P.sI (k := 21) (kd := 0) (j := ((2 : Int32) * (hi q1.2 a0 20))) h0 (by decide) (by decide) (by decide) (by decide) h11 rfl e15
  refine GR.bind e13 ?_
  refine GR.bind (P.getRa (k := 21) h0 (by decide) (by decide) (by decide)) ?_
  refine GR.bind (P.rI (k := 20) h0 (by decide) (by decide) (by decide)) ?_
  replace hF := okb_some hF
  obtain ⟨h16, hF⟩ := hF
  replace hF := bnd_e hF
  obtain ⟨w19, e20, hF⟩ := hF
  obtain ⟨g17, e18, P⟩ := P.sI (k := 21) (kd := 0) (j := (((2 : Int32) * (hi w14 a0 20)) + (1 : Int32))) h0 (by decide) (by decide) (by decide) (by decide) h16 rfl e20
  refine GR.bind e18 ?_
  exact rX9_readsFor_47  h0 P hF
def FX9_opAt (w : HS) (a0 : Nat) (a1 : Int32) (a2 : Int32) : Option (Unit × HS) :=
  okb (hc w a0 == 9) (if (2 : Int32) ≤ a2 then ((FX9_writesAt w a0 a1 (a2 - (2 : Int32))).bind fun q2 =>
  (some ((), q2.2))) else
  ((FX9_readsFor w a0 a1 a2).bind fun q6 =>
  (some ((), q6.2))))
set_option maxHeartbeats 4000000 in
set_option maxRecDepth 100000 in
theorem rX9_opAt {ar : Nat → Nat → Nat} {c0 : Nat → Nat} {sz : Nat} {g : PH} {w w' : HS} {a0 : Nat} {a1 : Int32} {a2 : Int32} {r : Unit} (P : Rel ar c0 sz g w) (hF : FX9_opAt w a0 a1 a2 = some (r, w')) : GR ar c0 sz r w' (fX9_opAt g a0 a1 a2) := by
  unfold FX9_opAt at hF
  unfold fX9_opAt
  replace hF := okb_some hF
  obtain ⟨h0, hF⟩ := hF
  replace h0 := P.cls h0
  refine GR.ok (P.rO h0 (by decide)) ?_
  by_cases c1 : (2 : Int32) ≤ a2
  · replace hF := ite_t c1 hF
    refine GR.t c1 ?_
    replace hF := ob_some hF
    obtain ⟨q2, h3, hF⟩ := hF
    obtain ⟨g4, e5, P⟩ := rX9_writesAt (r := q2.1) (w' := q2.2) P h3
    refine GR.bind e5 ?_
    obtain ⟨f1, f2⟩ := finW hF
    subst f1
    subst f2
    exact GR.ret P
  replace hF := ite_f c1 hF
  refine GR.f c1 ?_
  replace hF := ob_some hF
  obtain ⟨q6, h7, hF⟩ := hF
  obtain ⟨g8, e9, P⟩ := rX9_readsFor (r := q6.1) (w' := q6.2) P h7
  refine GR.bind e9 ?_
  obtain ⟨f1, f2⟩ := finW hF
  subst f1
  subst f2
  exact GR.ret P
def FX9_goesThrough_100 (k15 : HS → Nat → Int32 → Int32 → Int32 → Int32 → Option (Unit × HS)) (k55 : HS → Nat → Int32 → Int32 → Int32 → Int32 → Int32 → Int32 → Option (Unit × HS)) (k67 : HS → Nat → Int32 → Int32 → Int32 → Int32 → Int32 → Int32 → Int32 → Option (Unit × HS)) (w : HS) (v0 : Nat) (v1 : Int32) (v2 : Int32) (v3 : Int32) (v4 : Int32) (v5 : Int32) (v6 : Int32) (v7 : Int32) (s0 : Int32) (s1 : Nat) : Option (Unit × HS) :=
  (FX9_elementAt w v0 v1 v4 ((2 : Int32) + v7)).bind fun q1 =>
  ((FX9_opAt q1.2 s1 s0 q1.1).bind fun q5 =>
  (k67 q5.2 v0 v1 v2 v3 v4 v5 v6 (v7 + (1 : Int32))))
set_option maxHeartbeats 4000000 in
set_option maxRecDepth 100000 in
theorem rX9_goesThrough_100 {ar : Nat → Nat → Nat} {c0 : Nat → Nat} {sz : Nat} {r : Unit} {w' : HS} {k15 : HS → Nat → Int32 → Int32 → Int32 → Int32 → Option (Unit × HS)} {j15 : PH → Nat → Int32 → Int32 → Int32 → Int32 → Option (Unit × PH)} {k55 : HS → Nat → Int32 → Int32 → Int32 → Int32 → Int32 → Int32 → Option (Unit × HS)} {j55 : PH → Nat → Int32 → Int32 → Int32 → Int32 → Int32 → Int32 → Option (Unit × PH)} {k67 : HS → Nat → Int32 → Int32 → Int32 → Int32 → Int32 → Int32 → Int32 → Option (Unit × HS)} {j67 : PH → Nat → Int32 → Int32 → Int32 → Int32 → Int32 → Int32 → Int32 → Option (Unit × PH)} (hk15 : ∀ (g : PH) (w : HS) (v0 : Nat) (v1 : Int32) (v2 : Int32) (v3 : Int32) (v4 : Int32), c0 v0 = 9 → Rel ar c0 sz g w → k15 w v0 v1 v2 v3 v4 = some (r, w') → GR ar c0 sz r w' (j15 g v0 v1 v2 v3 v4)) (hk55 : ∀ (g : PH) (w : HS) (v0 : Nat) (v1 : Int32) (v2 : Int32) (v3 : Int32) (v4 : Int32) (v5 : Int32) (v6 : Int32), c0 v0 = 9 → Rel ar c0 sz g w → k55 w v0 v1 v2 v3 v4 v5 v6 = some (r, w') → GR ar c0 sz r w' (j55 g v0 v1 v2 v3 v4 v5 v6)) (hk67 : ∀ (g : PH) (w : HS) (v0 : Nat) (v1 : Int32) (v2 : Int32) (v3 : Int32) (v4 : Int32) (v5 : Int32) (v6 : Int32) (v7 : Int32), c0 v0 = 9 → Rel ar c0 sz g w → k67 w v0 v1 v2 v3 v4 v5 v6 v7 = some (r, w') → GR ar c0 sz r w' (j67 g v0 v1 v2 v3 v4 v5 v6 v7)) {g : PH} {w : HS} {v0 : Nat} {v1 : Int32} {v2 : Int32} {v3 : Int32} {v4 : Int32} {v5 : Int32} {v6 : Int32} {v7 : Int32} {s0 : Int32} {s1 : Nat} (h0 : c0 v0 = 9) (P : Rel ar c0 sz g w) (hF : FX9_goesThrough_100 k15 k55 k67 w v0 v1 v2 v3 v4 v5 v6 v7 s0 s1 = some (r, w')) : GR ar c0 sz r w' (fX9_goesThrough_100 j15 j55 j67 g v0 v1 v2 v3 v4 v5 v6 v7 s0 s1) := by
  unfold FX9_goesThrough_100 at hF
  unfold fX9_goesThrough_100
  replace hF := ob_some hF
  obtain ⟨q1, h2, hF⟩ := hF
  obtain ⟨g3, e4, P⟩ := rX9_elementAt (r := q1.1) (w' := q1.2) P h2
  refine GR.bind e4 ?_
  replace hF := ob_some hF
  obtain ⟨q5, h6, hF⟩ := hF
  obtain ⟨g7, e8, P⟩ := rX9_opAt (r := q5.1) (w' := q5.2) P h6
  refine GR.bind e8 ?_
  exact hk67 _ _ _ _ _ _ _ _ _ _ h0 P hF
def FX9_goesThrough_67 (k15 : HS → Nat → Int32 → Int32 → Int32 → Int32 → Option (Unit × HS)) (k55 : HS → Nat → Int32 → Int32 → Int32 → Int32 → Int32 → Int32 → Option (Unit × HS)) : Nat → HS → Nat → Int32 → Int32 → Int32 → Int32 → Int32 → Int32 → Int32 → Option (Unit × HS)
  | 0, _, _, _, _, _, _, _, _, _ => none
  | n + 1, w, v0, v1, v2, v3, v4, v5, v6, v7 =>
  (FX9_elementAt w v0 v1 v4 (1 : Int32)).bind fun q1 =>
  (if q1.1 ≤ v7 then (k55 q1.2 v0 v1 v2 v3 v4 v5 (v6 + (1 : Int32))) else
  (if v5 = 0 then (FX9_goesThrough_100 (k15) (k55) (FX9_goesThrough_67 k15 k55 n) q1.2 v0 v1 v2 v3 v4 v5 v6 v7 v6 v0) else
  (FX9_goesThrough_100 (k15) (k55) (FX9_goesThrough_67 k15 k55 n) q1.2 v0 v1 v2 v3 v4 v5 v6 v7 (((hi q1.2 v0 15) - (1 : Int32)) - v6) v0)))
set_option maxHeartbeats 4000000 in
set_option maxRecDepth 100000 in
theorem rX9_goesThrough_67 {ar : Nat → Nat → Nat} {c0 : Nat → Nat} {sz : Nat} {r : Unit} {w' : HS} {k15 : HS → Nat → Int32 → Int32 → Int32 → Int32 → Option (Unit × HS)} {j15 : PH → Nat → Int32 → Int32 → Int32 → Int32 → Option (Unit × PH)} {k55 : HS → Nat → Int32 → Int32 → Int32 → Int32 → Int32 → Int32 → Option (Unit × HS)} {j55 : PH → Nat → Int32 → Int32 → Int32 → Int32 → Int32 → Int32 → Option (Unit × PH)} (hk15 : ∀ (g : PH) (w : HS) (v0 : Nat) (v1 : Int32) (v2 : Int32) (v3 : Int32) (v4 : Int32), c0 v0 = 9 → Rel ar c0 sz g w → k15 w v0 v1 v2 v3 v4 = some (r, w') → GR ar c0 sz r w' (j15 g v0 v1 v2 v3 v4)) (hk55 : ∀ (g : PH) (w : HS) (v0 : Nat) (v1 : Int32) (v2 : Int32) (v3 : Int32) (v4 : Int32) (v5 : Int32) (v6 : Int32), c0 v0 = 9 → Rel ar c0 sz g w → k55 w v0 v1 v2 v3 v4 v5 v6 = some (r, w') → GR ar c0 sz r w' (j55 g v0 v1 v2 v3 v4 v5 v6)) : ∀ (n : Nat) (g : PH) (w : HS) (v0 : Nat) (v1 : Int32) (v2 : Int32) (v3 : Int32) (v4 : Int32) (v5 : Int32) (v6 : Int32) (v7 : Int32), c0 v0 = 9 → Rel ar c0 sz g w → FX9_goesThrough_67 k15 k55 n w v0 v1 v2 v3 v4 v5 v6 v7 = some (r, w') → GR ar c0 sz r w' (fX9_goesThrough_67 j15 j55 n g v0 v1 v2 v3 v4 v5 v6 v7) := by
  intro n
  induction n with
  | zero =>
    intro g w v0 v1 v2 v3 v4 v5 v6 v7 h0 P hF
    rw [FX9_goesThrough_67] at hF
    cases hF
  | succ n ih =>
    intro g w v0 v1 v2 v3 v4 v5 v6 v7 h0 P hF
    rw [FX9_goesThrough_67] at hF
    rw [fX9_goesThrough_67]
    replace hF := ob_some hF
    obtain ⟨q1, h2, hF⟩ := hF
    obtain ⟨g3, e4, P⟩ := rX9_elementAt (r := q1.1) (w' := q1.2) P h2
    refine GR.bind e4 ?_
    by_cases c5 : q1.1 ≤ v7
    · replace hF := ite_t c5 hF
      refine GR.t c5 ?_
      exact hk55 _ _ _ _ _ _ _ _ _ h0 P hF
    replace hF := ite_f c5 hF
    refine GR.f c5 ?_
    by_cases c6 : v5 = 0
    · replace hF := ite_t c6 hF
      refine GR.t c6 ?_
      exact rX9_goesThrough_100 hk15 hk55 ih h0 P hF
    replace hF := ite_f c6 hF
    refine GR.f c6 ?_
    refine GR.bind (P.rI (k := 15) h0 (by decide) (by decide) (by decide)) ?_
    exact rX9_goesThrough_100 hk15 hk55 ih h0 P hF
def FX9_goesThrough_55 (k15 : HS → Nat → Int32 → Int32 → Int32 → Int32 → Option (Unit × HS)) : Nat → HS → Nat → Int32 → Int32 → Int32 → Int32 → Int32 → Int32 → Option (Unit × HS)
  | 0, _, _, _, _, _, _, _, _ => none
  | n + 1, w, v0, v1, v2, v3, v4, v5, v6 =>
  if (hi w v0 15) ≤ v6 then (k15 w v0 v1 v2 v3 (v4 + (1 : Int32))) else
  (FX9_goesThrough_67 (k15) (FX9_goesThrough_55 k15 n) FUEL w v0 v1 v2 v3 v4 v5 v6 (0 : Int32))
set_option maxHeartbeats 4000000 in
set_option maxRecDepth 100000 in
theorem rX9_goesThrough_55 {ar : Nat → Nat → Nat} {c0 : Nat → Nat} {sz : Nat} {r : Unit} {w' : HS} {k15 : HS → Nat → Int32 → Int32 → Int32 → Int32 → Option (Unit × HS)} {j15 : PH → Nat → Int32 → Int32 → Int32 → Int32 → Option (Unit × PH)} (hk15 : ∀ (g : PH) (w : HS) (v0 : Nat) (v1 : Int32) (v2 : Int32) (v3 : Int32) (v4 : Int32), c0 v0 = 9 → Rel ar c0 sz g w → k15 w v0 v1 v2 v3 v4 = some (r, w') → GR ar c0 sz r w' (j15 g v0 v1 v2 v3 v4)) : ∀ (n : Nat) (g : PH) (w : HS) (v0 : Nat) (v1 : Int32) (v2 : Int32) (v3 : Int32) (v4 : Int32) (v5 : Int32) (v6 : Int32), c0 v0 = 9 → Rel ar c0 sz g w → FX9_goesThrough_55 k15 n w v0 v1 v2 v3 v4 v5 v6 = some (r, w') → GR ar c0 sz r w' (fX9_goesThrough_55 j15 n g v0 v1 v2 v3 v4 v5 v6) := by
  intro n
  induction n with
  | zero =>
    intro g w v0 v1 v2 v3 v4 v5 v6 h0 P hF
    rw [FX9_goesThrough_55] at hF
    cases hF
  | succ n ih =>
    intro g w v0 v1 v2 v3 v4 v5 v6 h0 P hF
    rw [FX9_goesThrough_55] at hF
    rw [fX9_goesThrough_55]
    refine GR.bind (P.rI (k := 15) h0 (by decide) (by decide) (by decide)) ?_
    by_cases c1 : (hi w v0 15) ≤ v6
    · replace hF := ite_t c1 hF
      refine GR.t c1 ?_
      exact hk15 _ _ _ _ _ _ _ h0 P hF
    replace hF := ite_f c1 hF
    refine GR.f c1 ?_
    exact rX9_goesThrough_67 hk15 ih _ _ _ _ _ _ _ _ _ _ _ h0 P hF
def FX9_goesThrough_52 (k15 : HS → Nat → Int32 → Int32 → Int32 → Int32 → Option (Unit × HS)) (w : HS) (v0 : Nat) (v1 : Int32) (v2 : Int32) (v3 : Int32) (v4 : Int32) (v5 : Int32) : Option (Unit × HS) :=
  FX9_goesThrough_55 (k15) FUEL w v0 v1 v2 v3 v4 v5 (0 : Int32)
set_option maxHeartbeats 4000000 in
set_option maxRecDepth 100000 in
theorem rX9_goesThrough_52 {ar : Nat → Nat → Nat} {c0 : Nat → Nat} {sz : Nat} {r : Unit} {w' : HS} {k15 : HS → Nat → Int32 → Int32 → Int32 → Int32 → Option (Unit × HS)} {j15 : PH → Nat → Int32 → Int32 → Int32 → Int32 → Option (Unit × PH)} (hk15 : ∀ (g : PH) (w : HS) (v0 : Nat) (v1 : Int32) (v2 : Int32) (v3 : Int32) (v4 : Int32), c0 v0 = 9 → Rel ar c0 sz g w → k15 w v0 v1 v2 v3 v4 = some (r, w') → GR ar c0 sz r w' (j15 g v0 v1 v2 v3 v4)) {g : PH} {w : HS} {v0 : Nat} {v1 : Int32} {v2 : Int32} {v3 : Int32} {v4 : Int32} {v5 : Int32} (h0 : c0 v0 = 9) (P : Rel ar c0 sz g w) (hF : FX9_goesThrough_52 k15 w v0 v1 v2 v3 v4 v5 = some (r, w')) : GR ar c0 sz r w' (fX9_goesThrough_52 j15 g v0 v1 v2 v3 v4 v5) := by
  unfold FX9_goesThrough_52 at hF
  unfold fX9_goesThrough_52
  exact rX9_goesThrough_55 hk15 _ _ _ _ _ _ _ _ _ _ h0 P hF
def FX9_goesThrough_15  : Nat → HS → Nat → Int32 → Int32 → Int32 → Int32 → Option (Unit × HS)
  | 0, _, _, _, _, _, _ => none
  | n + 1, w, v0, v1, v2, v3, v4 =>
  okb (inb v1 7) (if (ha w v0 9 v1.toNatClampNeg) ≤ v4 then (some ((), w)) else
  ((FX9_elementAt w v0 v1 v4 (0 : Int32)).bind fun q3 =>
  (if q3.1 = (2 : Int32) then (FX9_goesThrough_52 (FX9_goesThrough_15 n) q3.2 v0 v1 v2 (v3 + (1 : Int32)) v4 ((v2 >>> (v3 &&& 31)) &&& (1 : Int32))) else
  (FX9_goesThrough_52 (FX9_goesThrough_15 n) q3.2 v0 v1 v2 v3 v4 q3.1))))
set_option maxHeartbeats 4000000 in
set_option maxRecDepth 100000 in
theorem rX9_goesThrough_15 {ar : Nat → Nat → Nat} {c0 : Nat → Nat} {sz : Nat} {r : Unit} {w' : HS}   : ∀ (n : Nat) (g : PH) (w : HS) (v0 : Nat) (v1 : Int32) (v2 : Int32) (v3 : Int32) (v4 : Int32), c0 v0 = 9 → Rel ar c0 sz g w → FX9_goesThrough_15  n w v0 v1 v2 v3 v4 = some (r, w') → GR ar c0 sz r w' (fX9_goesThrough_15  n g v0 v1 v2 v3 v4) := by
  intro n
  induction n with
  | zero =>
    intro g w v0 v1 v2 v3 v4 h0 P hF
    rw [FX9_goesThrough_15] at hF
    cases hF
  | succ n ih =>
    intro g w v0 v1 v2 v3 v4 h0 P hF
    rw [FX9_goesThrough_15] at hF
    rw [fX9_goesThrough_15]
    refine GR.bind (P.getRa (k := 9) h0 (by decide) (by decide) (by decide)) ?_
    replace hF := okb_some hF
    obtain ⟨h1, hF⟩ := hF
    refine GR.bind (P.dI (k := 9) (n := v1.toNatClampNeg) h0 (by decide) (by decide) (by decide) (by decide) h1 rfl) ?_
    by_cases c2 : (ha w v0 9 v1.toNatClampNeg) ≤ v4
    · replace hF := ite_t c2 hF
      refine GR.t c2 ?_
      obtain ⟨f1, f2⟩ := finW hF
      subst f1
      subst f2
      exact GR.ret P
    replace hF := ite_f c2 hF
    refine GR.f c2 ?_
    replace hF := ob_some hF
    obtain ⟨q3, h4, hF⟩ := hF
    obtain ⟨g5, e6, P⟩ := rX9_elementAt (r := q3.1) (w' := q3.2) P h4
    refine GR.bind e6 ?_
    by_cases c7 : q3.1 = (2 : Int32)
    · replace hF := ite_t c7 hF
      refine GR.t c7 ?_
      exact rX9_goesThrough_52 ih h0 P hF
    replace hF := ite_f c7 hF
    refine GR.f c7 ?_
    exact rX9_goesThrough_52 ih h0 P hF
def FX9_goesThrough (w : HS) (a0 : Nat) (a1 : Int32) (a2 : Int32) : Option (Unit × HS) :=
  okb (hc w a0 == 9) (bnd (setI w a0 20 (0 : Int32)) fun w1 =>
  (bnd (setI w1 a0 22 (0 : Int32)) fun w5 =>
  (FX9_goesThrough_15 FUEL w5 a0 a1 a2 (0 : Int32) (0 : Int32))))
set_option maxHeartbeats 4000000 in
set_option maxRecDepth 100000 in
theorem rX9_goesThrough {ar : Nat → Nat → Nat} {c0 : Nat → Nat} {sz : Nat} {g : PH} {w w' : HS} {a0 : Nat} {a1 : Int32} {a2 : Int32} {r : Unit} (P : Rel ar c0 sz g w) (hF : FX9_goesThrough w a0 a1 a2 = some (r, w')) : GR ar c0 sz r w' (fX9_goesThrough g a0 a1 a2) := by
  unfold FX9_goesThrough at hF
  unfold fX9_goesThrough
  replace hF := okb_some hF
  obtain ⟨h0, hF⟩ := hF
  replace h0 := P.cls h0
  refine GR.ok (P.rO h0 (by decide)) ?_
  replace hF := bnd_e hF
  obtain ⟨w1, e2, hF⟩ := hF
  obtain ⟨g3, e4, P⟩ := P.putI (k := 20) h0 (by decide) (by decide) (by decide) e2
  refine GR.bind e4 ?_
  replace hF := bnd_e hF
  obtain ⟨w5, e6, hF⟩ := hF
  obtain ⟨g7, e8, P⟩ := P.putI (k := 22) h0 (by decide) (by decide) (by decide) e6
  refine GR.bind e8 ?_
  exact rX9_goesThrough_15  _ _ _ _ _ _ _ _ h0 P hF
def FX9_keepsAside_2  : Nat → HS → Nat → Int32 → Option (Unit × HS)
  | 0, _, _, _ => none
  | n + 1, w, v0, v1 =>
  if (133 : Int32) ≤ v1 then (some ((), w)) else
  (okb (inb v1 133) (okb (inb v1 133) (bnd (setA w v0 17 v1.toNatClampNeg (ha w v0 16 v1.toNatClampNeg)) fun w6 =>
  (FX9_keepsAside_2 n w6 v0 (v1 + (1 : Int32))))))
set_option maxHeartbeats 4000000 in
set_option maxRecDepth 100000 in
theorem rX9_keepsAside_2 {ar : Nat → Nat → Nat} {c0 : Nat → Nat} {sz : Nat} {r : Unit} {w' : HS}   : ∀ (n : Nat) (g : PH) (w : HS) (v0 : Nat) (v1 : Int32), c0 v0 = 9 → Rel ar c0 sz g w → FX9_keepsAside_2  n w v0 v1 = some (r, w') → GR ar c0 sz r w' (fX9_keepsAside_2  n g v0 v1) := by
  intro n
  induction n with
  | zero =>
    intro g w v0 v1 h0 P hF
    rw [FX9_keepsAside_2] at hF
    cases hF
  | succ n ih =>
    intro g w v0 v1 h0 P hF
    rw [FX9_keepsAside_2] at hF
    rw [fX9_keepsAside_2]
    by_cases c1 : (133 : Int32) ≤ v1
    · replace hF := ite_t c1 hF
      refine GR.t c1 ?_
      obtain ⟨f1, f2⟩ := finW hF
      subst f1
      subst f2
      exact GR.ret P
    replace hF := ite_f c1 hF
    refine GR.f c1 ?_
    refine GR.bind (P.getRa (k := 17) h0 (by decide) (by decide) (by decide)) ?_
    refine GR.bind (P.getRa (k := 16) h0 (by decide) (by decide) (by decide)) ?_
    replace hF := okb_some hF
    obtain ⟨h2, hF⟩ := hF
    refine GR.bind (P.dI (k := 16) (n := v1.toNatClampNeg) h0 (by decide) (by decide) (by decide) (by decide) h2 rfl) ?_
    replace hF := okb_some hF
    obtain ⟨h3, hF⟩ := hF
    replace hF := bnd_e hF
    obtain ⟨w6, e7, hF⟩ := hF
    obtain ⟨g4, e5, P⟩ := P.sI (k := 17) (kd := 0) (j := v1) h0 (by decide) (by decide) (by decide) (by decide) h3 rfl e7
    refine GR.bind e5 ?_
    exact ih _ _ _ _ h0 P hF
def FX9_keepsAside (w : HS) (a0 : Nat) : Option (Unit × HS) :=
  okb (hc w a0 == 9) (FX9_keepsAside_2 FUEL w a0 (0 : Int32))
set_option maxHeartbeats 4000000 in
set_option maxRecDepth 100000 in
theorem rX9_keepsAside {ar : Nat → Nat → Nat} {c0 : Nat → Nat} {sz : Nat} {g : PH} {w w' : HS} {a0 : Nat} {r : Unit} (P : Rel ar c0 sz g w) (hF : FX9_keepsAside w a0 = some (r, w')) : GR ar c0 sz r w' (fX9_keepsAside g a0) := by
  unfold FX9_keepsAside at hF
  unfold fX9_keepsAside
  replace hF := okb_some hF
  obtain ⟨h0, hF⟩ := hF
  replace h0 := P.cls h0
  refine GR.ok (P.rO h0 (by decide)) ?_
  exact rX9_keepsAside_2  _ _ _ _ _ h0 P hF
def FX9_laysBack_2  : Nat → HS → Nat → Int32 → Option (Unit × HS)
  | 0, _, _, _ => none
  | n + 1, w, v0, v1 =>
  if (133 : Int32) ≤ v1 then (some ((), w)) else
  (okb (inb v1 133) (okb (inb v1 133) (bnd (setA w v0 16 v1.toNatClampNeg (ha w v0 17 v1.toNatClampNeg)) fun w6 =>
  (FX9_laysBack_2 n w6 v0 (v1 + (1 : Int32))))))
set_option maxHeartbeats 4000000 in
set_option maxRecDepth 100000 in
theorem rX9_laysBack_2 {ar : Nat → Nat → Nat} {c0 : Nat → Nat} {sz : Nat} {r : Unit} {w' : HS}   : ∀ (n : Nat) (g : PH) (w : HS) (v0 : Nat) (v1 : Int32), c0 v0 = 9 → Rel ar c0 sz g w → FX9_laysBack_2  n w v0 v1 = some (r, w') → GR ar c0 sz r w' (fX9_laysBack_2  n g v0 v1) := by
  intro n
  induction n with
  | zero =>
    intro g w v0 v1 h0 P hF
    rw [FX9_laysBack_2] at hF
    cases hF
  | succ n ih =>
    intro g w v0 v1 h0 P hF
    rw [FX9_laysBack_2] at hF
    rw [fX9_laysBack_2]
    by_cases c1 : (133 : Int32) ≤ v1
    · replace hF := ite_t c1 hF
      refine GR.t c1 ?_
      obtain ⟨f1, f2⟩ := finW hF
      subst f1
      subst f2
      exact GR.ret P
    replace hF := ite_f c1 hF
    refine GR.f c1 ?_
    refine GR.bind (P.getRa (k := 16) h0 (by decide) (by decide) (by decide)) ?_
    refine GR.bind (P.getRa (k := 17) h0 (by decide) (by decide) (by decide)) ?_
    replace hF := okb_some hF
    obtain ⟨h2, hF⟩ := hF
    refine GR.bind (P.dI (k := 17) (n := v1.toNatClampNeg) h0 (by decide) (by decide) (by decide) (by decide) h2 rfl) ?_
    replace hF := okb_some hF
    obtain ⟨h3, hF⟩ := hF
    replace hF := bnd_e hF
    obtain ⟨w6, e7, hF⟩ := hF
    obtain ⟨g4, e5, P⟩ := P.sI (k := 16) (kd := 0) (j := v1) h0 (by decide) (by decide) (by decide) (by decide) h3 rfl e7
    refine GR.bind e5 ?_
    exact ih _ _ _ _ h0 P hF
def FX9_laysBack (w : HS) (a0 : Nat) : Option (Unit × HS) :=
  okb (hc w a0 == 9) (FX9_laysBack_2 FUEL w a0 (0 : Int32))
set_option maxHeartbeats 4000000 in
set_option maxRecDepth 100000 in
theorem rX9_laysBack {ar : Nat → Nat → Nat} {c0 : Nat → Nat} {sz : Nat} {g : PH} {w w' : HS} {a0 : Nat} {r : Unit} (P : Rel ar c0 sz g w) (hF : FX9_laysBack w a0 = some (r, w')) : GR ar c0 sz r w' (fX9_laysBack g a0) := by
  unfold FX9_laysBack at hF
  unfold fX9_laysBack
  replace hF := okb_some hF
  obtain ⟨h0, hF⟩ := hF
  replace h0 := P.cls h0
  refine GR.ok (P.rO h0 (by decide)) ?_
  exact rX9_laysBack_2  _ _ _ _ _ h0 P hF
def FX9_tries (w : HS) (a0 : Nat) (a1 : Int32) (a2 : Int32) (a3 : Int32) (a4 : Int32) : Option (Unit × HS) :=
  okb (hc w a0 == 9) (bnd (setA w a0 16 1 a1) fun w3 =>
  (bnd (setA w3 a0 16 2 a2) fun w7 =>
  (bnd (setA w7 a0 16 3 a3) fun w11 =>
  (bnd (setA w11 a0 16 0 a4) fun w15 =>
  ((FX9_settles w15 a0).bind fun q17 =>
  (some ((), q17.2)))))))
set_option maxHeartbeats 4000000 in
set_option maxRecDepth 100000 in
theorem rX9_tries {ar : Nat → Nat → Nat} {c0 : Nat → Nat} {sz : Nat} {g : PH} {w w' : HS} {a0 : Nat} {a1 : Int32} {a2 : Int32} {a3 : Int32} {a4 : Int32} {r : Unit} (P : Rel ar c0 sz g w) (hF : FX9_tries w a0 a1 a2 a3 a4 = some (r, w')) : GR ar c0 sz r w' (fX9_tries g a0 a1 a2 a3 a4) := by
  unfold FX9_tries at hF
  unfold fX9_tries
  replace hF := okb_some hF
  obtain ⟨h0, hF⟩ := hF
  replace h0 := P.cls h0
  refine GR.ok (P.rO h0 (by decide)) ?_
  refine GR.bind (P.getRa (k := 16) h0 (by decide) (by decide) (by decide)) ?_
  replace hF := bnd_e hF
  obtain ⟨w3, e4, hF⟩ := hF
  obtain ⟨g1, e2, P⟩ := P.sI (k := 16) (kd := 0) (j := (1 : Int32)) h0 (by decide) (by decide) (by decide) (by decide) (by decide) (by decide) e4
  refine GR.bind e2 ?_
  refine GR.bind (P.getRa (k := 16) h0 (by decide) (by decide) (by decide)) ?_
  replace hF := bnd_e hF
  obtain ⟨w7, e8, hF⟩ := hF
  obtain ⟨g5, e6, P⟩ := P.sI (k := 16) (kd := 0) (j := (2 : Int32)) h0 (by decide) (by decide) (by decide) (by decide) (by decide) (by decide) e8
  refine GR.bind e6 ?_
  refine GR.bind (P.getRa (k := 16) h0 (by decide) (by decide) (by decide)) ?_
  replace hF := bnd_e hF
  obtain ⟨w11, e12, hF⟩ := hF
  obtain ⟨g9, e10, P⟩ := P.sI (k := 16) (kd := 0) (j := (3 : Int32)) h0 (by decide) (by decide) (by decide) (by decide) (by decide) (by decide) e12
  refine GR.bind e10 ?_
  refine GR.bind (P.getRa (k := 16) h0 (by decide) (by decide) (by decide)) ?_
  replace hF := bnd_e hF
  obtain ⟨w15, e16, hF⟩ := hF
  obtain ⟨g13, e14, P⟩ := P.sI (k := 16) (kd := 0) (j := (0 : Int32)) h0 (by decide) (by decide) (by decide) (by decide) (by decide) (by decide) e16
  refine GR.bind e14 ?_
  replace hF := ob_some hF
  obtain ⟨q17, h18, hF⟩ := hF
  obtain ⟨g19, e20, P⟩ := rX9_settles (r := q17.1) (w' := q17.2) P h18
  refine GR.bind e20 ?_
  obtain ⟨f1, f2⟩ := finW hF
  subst f1
  subst f2
  exact GR.ret P
def FX9_placements (w : HS) (a0 : Nat) (a1 : Int32) : Option (Int32 × HS) :=
  okb (hc w a0 == 9) ((FX9_isPair w a0 a1).bind fun q1 =>
  (if q1.1 = 0 then (some ((hi q1.2 a0 15), q1.2)) else
  (some (((hi q1.2 a0 15) * ((hi q1.2 a0 15) - (1 : Int32))), q1.2))))
set_option maxHeartbeats 4000000 in
set_option maxRecDepth 100000 in
theorem rX9_placements {ar : Nat → Nat → Nat} {c0 : Nat → Nat} {sz : Nat} {g : PH} {w w' : HS} {a0 : Nat} {a1 : Int32} {r : Int32} (P : Rel ar c0 sz g w) (hF : FX9_placements w a0 a1 = some (r, w')) : GR ar c0 sz r w' (fX9_placements g a0 a1) := by
  unfold FX9_placements at hF
  unfold fX9_placements
  replace hF := okb_some hF
  obtain ⟨h0, hF⟩ := hF
  replace h0 := P.cls h0
  refine GR.ok (P.rO h0 (by decide)) ?_
  replace hF := ob_some hF
  obtain ⟨q1, h2, hF⟩ := hF
  obtain ⟨g3, e4, P⟩ := rX9_isPair (r := q1.1) (w' := q1.2) P h2
  refine GR.bind e4 ?_
  by_cases c5 : q1.1 = 0
  · replace hF := ite_t c5 hF
    refine GR.t c5 ?_
    refine GR.bind (P.rI (k := 15) h0 (by decide) (by decide) (by decide)) ?_
    obtain ⟨f1, f2⟩ := finW hF
    subst f1
    subst f2
    exact GR.ret P
  replace hF := ite_f c5 hF
  refine GR.f c5 ?_
  refine GR.bind (P.rI (k := 15) h0 (by decide) (by decide) (by decide)) ?_
  refine GR.bind (P.rI (k := 15) h0 (by decide) (by decide) (by decide)) ?_
  obtain ⟨f1, f2⟩ := finW hF
  subst f1
  subst f2
  exact GR.ret P
def FX9_laysPlace (w : HS) (a0 : Nat) (a1 : Int32) (a2 : Int32) : Option (Unit × HS) :=
  okb (hc w a0 == 9) ((FX9_isPair w a0 a1).bind fun q1 =>
  (if q1.1 = 0 then (bnd (setI q1.2 a0 23 (-1 : Int32)) fun w6 =>
  (bnd (setI w6 a0 24 a2) fun w10 =>
  (some ((), w10)))) else
  (okb (decide (¬ ((hi q1.2 a0 15) - (1 : Int32)) = 0)) (bnd (setI q1.2 a0 23 (a2 / ((hi q1.2 a0 15) - (1 : Int32)))) fun w15 =>
  (okb (decide (¬ ((hi w15 a0 15) - (1 : Int32)) = 0)) (bnd (setI w15 a0 24 (a2 - a2 / ((hi w15 a0 15) - (1 : Int32)) * ((hi w15 a0 15) - (1 : Int32)))) fun w20 =>
  (if (hi w20 a0 24) < (hi w20 a0 23) then (bnd (setI w20 a0 24 ((hi w20 a0 24) + (0 : Int32))) fun w25 =>
  (some ((), w25))) else
  (bnd (setI w20 a0 24 ((hi w20 a0 24) + (1 : Int32))) fun w29 =>
  (some ((), w29))))))))))
set_option maxHeartbeats 4000000 in
set_option maxRecDepth 100000 in
theorem rX9_laysPlace {ar : Nat → Nat → Nat} {c0 : Nat → Nat} {sz : Nat} {g : PH} {w w' : HS} {a0 : Nat} {a1 : Int32} {a2 : Int32} {r : Unit} (P : Rel ar c0 sz g w) (hF : FX9_laysPlace w a0 a1 a2 = some (r, w')) : GR ar c0 sz r w' (fX9_laysPlace g a0 a1 a2) := by
  unfold FX9_laysPlace at hF
  unfold fX9_laysPlace
  replace hF := okb_some hF
  obtain ⟨h0, hF⟩ := hF
  replace h0 := P.cls h0
  refine GR.ok (P.rO h0 (by decide)) ?_
  replace hF := ob_some hF
  obtain ⟨q1, h2, hF⟩ := hF
  obtain ⟨g3, e4, P⟩ := rX9_isPair (r := q1.1) (w' := q1.2) P h2
  refine GR.bind e4 ?_
  by_cases c5 : q1.1 = 0
  · replace hF := ite_t c5 hF
    refine GR.t c5 ?_
    replace hF := bnd_e hF
    obtain ⟨w6, e7, hF⟩ := hF
    obtain ⟨g8, e9, P⟩ := P.putI (k := 23) h0 (by decide) (by decide) (by decide) e7
    refine GR.bind e9 ?_
    replace hF := bnd_e hF
    obtain ⟨w10, e11, hF⟩ := hF
    obtain ⟨g12, e13, P⟩ := P.putI (k := 24) h0 (by decide) (by decide) (by decide) e11
    refine GR.bind e13 ?_
    obtain ⟨f1, f2⟩ := finW hF
    subst f1
    subst f2
    exact GR.ret P
  replace hF := ite_f c5 hF
  refine GR.f c5 ?_
  refine GR.bind (P.rI (k := 15) h0 (by decide) (by decide) (by decide)) ?_
  replace hF := okb_some hF
  obtain ⟨h14, hF⟩ := hF
  refine GR.ok h14 ?_
  replace hF := bnd_e hF
  obtain ⟨w15, e16, hF⟩ := hF
  obtain ⟨g17, e18, P⟩ := P.putI (k := 23) h0 (by decide) (by decide) (by decide) e16
  refine GR.bind e18 ?_
  refine GR.bind (P.rI (k := 15) h0 (by decide) (by decide) (by decide)) ?_
  replace hF := okb_some hF
  obtain ⟨h19, hF⟩ := hF
  refine GR.ok h19 ?_
  replace hF := bnd_e hF
  obtain ⟨w20, e21, hF⟩ := hF
  obtain ⟨g22, e23, P⟩ := P.putI (k := 24) h0 (by decide) (by decide) (by decide) e21
  refine GR.bind e23 ?_
  refine GR.bind (P.rI (k := 24) h0 (by decide) (by decide) (by decide)) ?_
  refine GR.bind (P.rI (k := 24) h0 (by decide) (by decide) (by decide)) ?_
  refine GR.bind (P.rI (k := 23) h0 (by decide) (by decide) (by decide)) ?_
  by_cases c24 : (hi w20 a0 24) < (hi w20 a0 23)
  · replace hF := ite_t c24 hF
    refine GR.t c24 ?_
    replace hF := bnd_e hF
    obtain ⟨w25, e26, hF⟩ := hF
    obtain ⟨g27, e28, P⟩ := P.putI (k := 24) h0 (by decide) (by decide) (by decide) e26
    refine GR.bind e28 ?_
    obtain ⟨f1, f2⟩ := finW hF
    subst f1
    subst f2
    exact GR.ret P
  replace hF := ite_f c24 hF
  refine GR.f c24 ?_
  replace hF := bnd_e hF
  obtain ⟨w29, e30, hF⟩ := hF
  obtain ⟨g31, e32, P⟩ := P.putI (k := 24) h0 (by decide) (by decide) (by decide) e30
  refine GR.bind e32 ?_
  obtain ⟨f1, f2⟩ := finW hF
  subst f1
  subst f2
  exact GR.ret P
def FX9_isNear (w : HS) (a0 : Nat) : Option (Int32 × HS) :=
  okb (hc w a0 == 9) (if (hi w a0 23) < 0 then (some ((1 : Int32), w)) else
  (if ((hi w a0 23) - (hi w a0 24)) = (1 : Int32) then (some ((1 : Int32), w)) else
  (if ((hi w a0 24) - (hi w a0 23)) = (1 : Int32) then (some ((1 : Int32), w)) else
  (some ((0 : Int32), w)))))
set_option maxHeartbeats 4000000 in
set_option maxRecDepth 100000 in
theorem rX9_isNear {ar : Nat → Nat → Nat} {c0 : Nat → Nat} {sz : Nat} {g : PH} {w w' : HS} {a0 : Nat} {r : Int32} (P : Rel ar c0 sz g w) (hF : FX9_isNear w a0 = some (r, w')) : GR ar c0 sz r w' (fX9_isNear g a0) := by
  unfold FX9_isNear at hF
  unfold fX9_isNear
  replace hF := okb_some hF
  obtain ⟨h0, hF⟩ := hF
  replace h0 := P.cls h0
  refine GR.ok (P.rO h0 (by decide)) ?_
  refine GR.bind (P.rI (k := 23) h0 (by decide) (by decide) (by decide)) ?_
  by_cases c1 : (hi w a0 23) < 0
  · replace hF := ite_t c1 hF
    refine GR.t c1 ?_
    obtain ⟨f1, f2⟩ := finW hF
    subst f1
    subst f2
    exact GR.ret P
  replace hF := ite_f c1 hF
  refine GR.f c1 ?_
  refine GR.bind (P.rI (k := 23) h0 (by decide) (by decide) (by decide)) ?_
  refine GR.bind (P.rI (k := 24) h0 (by decide) (by decide) (by decide)) ?_
  by_cases c2 : ((hi w a0 23) - (hi w a0 24)) = (1 : Int32)
  · replace hF := ite_t c2 hF
    refine GR.t c2 ?_
    obtain ⟨f1, f2⟩ := finW hF
    subst f1
    subst f2
    exact GR.ret P
  replace hF := ite_f c2 hF
  refine GR.f c2 ?_
  refine GR.bind (P.rI (k := 24) h0 (by decide) (by decide) (by decide)) ?_
  refine GR.bind (P.rI (k := 23) h0 (by decide) (by decide) (by decide)) ?_
  by_cases c3 : ((hi w a0 24) - (hi w a0 23)) = (1 : Int32)
  · replace hF := ite_t c3 hF
    refine GR.t c3 ?_
    obtain ⟨f1, f2⟩ := finW hF
    subst f1
    subst f2
    exact GR.ret P
  replace hF := ite_f c3 hF
  refine GR.f c3 ?_
  obtain ⟨f1, f2⟩ := finW hF
  subst f1
  subst f2
  exact GR.ret P
def FX9_escapeOf_15 (k2 : HS → Nat → Int32 → Int32 → Int32 → Option (Int32 × HS)) : Nat → HS → Nat → Int32 → Int32 → Int32 → Int32 → Option (Int32 × HS)
  | 0, _, _, _, _, _, _ => none
  | n + 1, w, v0, v1, v2, v3, v4 =>
  (FX9_anys w v0 v1).bind fun q1 =>
  (if ((1 : Int32) <<< (q1.1 &&& 31)) ≤ v4 then (k2 q1.2 v0 v1 v2 (v3 + (1 : Int32))) else
  ((FX9_tries q1.2 v0 v2 (hi q1.2 v0 23) (hi q1.2 v0 24) v3).bind fun q6 =>
  ((FX9_goesThrough q6.2 v0 v1 v4).bind fun q10 =>
  (if (hi q10.2 v0 20) = 0 then (some ((((8 : Int32) * v3) + v4), q10.2)) else
  (FX9_escapeOf_15 k2 n q10.2 v0 v1 v2 v3 (v4 + (1 : Int32)))))))
set_option maxHeartbeats 4000000 in
set_option maxRecDepth 100000 in
theorem rX9_escapeOf_15 {ar : Nat → Nat → Nat} {c0 : Nat → Nat} {sz : Nat} {r : Int32} {w' : HS} {k2 : HS → Nat → Int32 → Int32 → Int32 → Option (Int32 × HS)} {j2 : PH → Nat → Int32 → Int32 → Int32 → Option (Int32 × PH)} (hk2 : ∀ (g : PH) (w : HS) (v0 : Nat) (v1 : Int32) (v2 : Int32) (v3 : Int32), c0 v0 = 9 → Rel ar c0 sz g w → k2 w v0 v1 v2 v3 = some (r, w') → GR ar c0 sz r w' (j2 g v0 v1 v2 v3)) : ∀ (n : Nat) (g : PH) (w : HS) (v0 : Nat) (v1 : Int32) (v2 : Int32) (v3 : Int32) (v4 : Int32), c0 v0 = 9 → Rel ar c0 sz g w → FX9_escapeOf_15 k2 n w v0 v1 v2 v3 v4 = some (r, w') → GR ar c0 sz r w' (fX9_escapeOf_15 j2 n g v0 v1 v2 v3 v4) := by
  intro n
  induction n with
  | zero =>
    intro g w v0 v1 v2 v3 v4 h0 P hF
    rw [FX9_escapeOf_15] at hF
    cases hF
  | succ n ih =>
    intro g w v0 v1 v2 v3 v4 h0 P hF
    rw [FX9_escapeOf_15] at hF
    rw [fX9_escapeOf_15]
    replace hF := ob_some hF
    obtain ⟨q1, h2, hF⟩ := hF
    obtain ⟨g3, e4, P⟩ := rX9_anys (r := q1.1) (w' := q1.2) P h2
    refine GR.bind e4 ?_
    by_cases c5 : ((1 : Int32) <<< (q1.1 &&& 31)) ≤ v4
    · replace hF := ite_t c5 hF
      refine GR.t c5 ?_
      exact hk2 _ _ _ _ _ _ h0 P hF
    replace hF := ite_f c5 hF
    refine GR.f c5 ?_
    refine GR.bind (P.rI (k := 23) h0 (by decide) (by decide) (by decide)) ?_
    refine GR.bind (P.rI (k := 24) h0 (by decide) (by decide) (by decide)) ?_
    replace hF := ob_some hF
    obtain ⟨q6, h7, hF⟩ := hF
    obtain ⟨g8, e9, P⟩ := rX9_tries (r := q6.1) (w' := q6.2) P h7
    refine GR.bind e9 ?_
    replace hF := ob_some hF
    obtain ⟨q10, h11, hF⟩ := hF
    obtain ⟨g12, e13, P⟩ := rX9_goesThrough (r := q10.1) (w' := q10.2) P h11
    refine GR.bind e13 ?_
    refine GR.bind (P.rI (k := 20) h0 (by decide) (by decide) (by decide)) ?_
    by_cases c14 : (hi q10.2 v0 20) = 0
    · replace hF := ite_t c14 hF
      refine GR.t c14 ?_
      obtain ⟨f1, f2⟩ := finW hF
      subst f1
      subst f2
      exact GR.ret P
    replace hF := ite_f c14 hF
    refine GR.f c14 ?_
    exact ih _ _ _ _ _ _ _ h0 P hF
def FX9_escapeOf_2  : Nat → HS → Nat → Int32 → Int32 → Int32 → Option (Int32 × HS)
  | 0, _, _, _, _, _ => none
  | n + 1, w, v0, v1, v2, v3 =>
  if ((1 : Int32) <<< ((hi w v0 15) &&& 31)) ≤ v3 then (some ((-1 : Int32), w)) else
  (FX9_escapeOf_15 (FX9_escapeOf_2 n) FUEL w v0 v1 v2 v3 (0 : Int32))
set_option maxHeartbeats 4000000 in
set_option maxRecDepth 100000 in
theorem rX9_escapeOf_2 {ar : Nat → Nat → Nat} {c0 : Nat → Nat} {sz : Nat} {r : Int32} {w' : HS}   : ∀ (n : Nat) (g : PH) (w : HS) (v0 : Nat) (v1 : Int32) (v2 : Int32) (v3 : Int32), c0 v0 = 9 → Rel ar c0 sz g w → FX9_escapeOf_2  n w v0 v1 v2 v3 = some (r, w') → GR ar c0 sz r w' (fX9_escapeOf_2  n g v0 v1 v2 v3) := by
  intro n
  induction n with
  | zero =>
    intro g w v0 v1 v2 v3 h0 P hF
    rw [FX9_escapeOf_2] at hF
    cases hF
  | succ n ih =>
    intro g w v0 v1 v2 v3 h0 P hF
    rw [FX9_escapeOf_2] at hF
    rw [fX9_escapeOf_2]
    refine GR.bind (P.rI (k := 15) h0 (by decide) (by decide) (by decide)) ?_
    by_cases c1 : ((1 : Int32) <<< ((hi w v0 15) &&& 31)) ≤ v3
    · replace hF := ite_t c1 hF
      refine GR.t c1 ?_
      obtain ⟨f1, f2⟩ := finW hF
      subst f1
      subst f2
      exact GR.ret P
    replace hF := ite_f c1 hF
    refine GR.f c1 ?_
    exact rX9_escapeOf_15 ih _ _ _ _ _ _ _ _ h0 P hF
def FX9_escapeOf (w : HS) (a0 : Nat) (a1 : Int32) (a2 : Int32) : Option (Int32 × HS) :=
  okb (hc w a0 == 9) (FX9_escapeOf_2 FUEL w a0 a1 a2 (0 : Int32))
set_option maxHeartbeats 4000000 in
set_option maxRecDepth 100000 in
theorem rX9_escapeOf {ar : Nat → Nat → Nat} {c0 : Nat → Nat} {sz : Nat} {g : PH} {w w' : HS} {a0 : Nat} {a1 : Int32} {a2 : Int32} {r : Int32} (P : Rel ar c0 sz g w) (hF : FX9_escapeOf w a0 a1 a2 = some (r, w')) : GR ar c0 sz r w' (fX9_escapeOf g a0 a1 a2) := by
  unfold FX9_escapeOf at hF
  unfold fX9_escapeOf
  replace hF := okb_some hF
  obtain ⟨h0, hF⟩ := hF
  replace h0 := P.cls h0
  refine GR.ok (P.rO h0 (by decide)) ?_
  exact rX9_escapeOf_2  _ _ _ _ _ _ _ h0 P hF
def FX9_ofKind (w : HS) (a0 : Nat) (a1 : Int32) (a2 : Int32) : Option (Int32 × HS) :=
  okb (hc w a0 == 9) ((FX9_isKind w a0 a1).bind fun q1 =>
  (if q1.1 = 0 then (some ((-1 : Int32), q1.2)) else
  ((FX9_isIn q1.2 a2.toInt64 (0 : Int64) (3 : Int64)).bind fun q6 =>
  (if q6.1 = 0 then (some ((-1 : Int32), q6.2)) else
  (if a2 = 0 then (okb (inb a1 9) (some ((ha q6.2 a0 6 a1.toNatClampNeg), q6.2))) else
  (if a2 = 1 then ((FX9_isPair q6.2 a0 a1).bind fun q14 =>
  (if q14.1 = 0 then (some ((0 : Int32), q14.2)) else
  (some ((1 : Int32), q14.2)))) else
  (if a2 = 2 then ((FX9_placements q6.2 a0 a1).bind fun q20 =>
  (some (q20.1, q20.2))) else
  ((FX9_isPair q6.2 a0 a1).bind fun q24 =>
  (if q24.1 = 0 then (some ((hi q24.2 a0 15), q24.2)) else
  (some (((2 : Int32) * ((hi q24.2 a0 15) - (1 : Int32))), q24.2)))))))))))
set_option maxHeartbeats 4000000 in
set_option maxRecDepth 100000 in
theorem rX9_ofKind {ar : Nat → Nat → Nat} {c0 : Nat → Nat} {sz : Nat} {g : PH} {w w' : HS} {a0 : Nat} {a1 : Int32} {a2 : Int32} {r : Int32} (P : Rel ar c0 sz g w) (hF : FX9_ofKind w a0 a1 a2 = some (r, w')) : GR ar c0 sz r w' (fX9_ofKind g a0 a1 a2) := by
  unfold FX9_ofKind at hF
  unfold fX9_ofKind
  replace hF := okb_some hF
  obtain ⟨h0, hF⟩ := hF
  replace h0 := P.cls h0
  refine GR.ok (P.rO h0 (by decide)) ?_
  replace hF := ob_some hF
  obtain ⟨q1, h2, hF⟩ := hF
  obtain ⟨g3, e4, P⟩ := rX9_isKind (r := q1.1) (w' := q1.2) P h2
  refine GR.bind e4 ?_
  by_cases c5 : q1.1 = 0
  · replace hF := ite_t c5 hF
    refine GR.t c5 ?_
    obtain ⟨f1, f2⟩ := finW hF
    subst f1
    subst f2
    exact GR.ret P
  replace hF := ite_f c5 hF
  refine GR.f c5 ?_
  replace hF := ob_some hF
  obtain ⟨q6, h7, hF⟩ := hF
  obtain ⟨g8, e9, P⟩ := rX9_isIn (r := q6.1) (w' := q6.2) P h7
  refine GR.bind e9 ?_
  by_cases c10 : q6.1 = 0
  · replace hF := ite_t c10 hF
    refine GR.t c10 ?_
    obtain ⟨f1, f2⟩ := finW hF
    subst f1
    subst f2
    exact GR.ret P
  replace hF := ite_f c10 hF
  refine GR.f c10 ?_
  by_cases c11 : a2 = 0
  · replace hF := ite_t c11 hF
    refine GR.t c11 ?_
    refine GR.bind (P.getRa (k := 6) h0 (by decide) (by decide) (by decide)) ?_
    replace hF := okb_some hF
    obtain ⟨h12, hF⟩ := hF
    refine GR.bind (P.dI (k := 6) (n := a1.toNatClampNeg) h0 (by decide) (by decide) (by decide) (by decide) h12 rfl) ?_
    obtain ⟨f1, f2⟩ := finW hF
    subst f1
    subst f2
    exact GR.ret P
  replace hF := ite_f c11 hF
  refine GR.f c11 ?_
  by_cases c13 : a2 = 1
  · replace hF := ite_t c13 hF
    refine GR.t c13 ?_
    replace hF := ob_some hF
    obtain ⟨q14, h15, hF⟩ := hF
    obtain ⟨g16, e17, P⟩ := rX9_isPair (r := q14.1) (w' := q14.2) P h15
    refine GR.bind e17 ?_
    by_cases c18 : q14.1 = 0
    · replace hF := ite_t c18 hF
      refine GR.t c18 ?_
      obtain ⟨f1, f2⟩ := finW hF
      subst f1
      subst f2
      exact GR.ret P
    replace hF := ite_f c18 hF
    refine GR.f c18 ?_
    obtain ⟨f1, f2⟩ := finW hF
    subst f1
    subst f2
    exact GR.ret P
  replace hF := ite_f c13 hF
  refine GR.f c13 ?_
  by_cases c19 : a2 = 2
  · replace hF := ite_t c19 hF
    refine GR.t c19 ?_
    replace hF := ob_some hF
    obtain ⟨q20, h21, hF⟩ := hF
    obtain ⟨g22, e23, P⟩ := rX9_placements (r := q20.1) (w' := q20.2) P h21
    refine GR.bind e23 ?_
    obtain ⟨f1, f2⟩ := finW hF
    subst f1
    subst f2
    exact GR.ret P
  replace hF := ite_f c19 hF
  refine GR.f c19 ?_
  replace hF := ob_some hF
  obtain ⟨q24, h25, hF⟩ := hF
  obtain ⟨g26, e27, P⟩ := rX9_isPair (r := q24.1) (w' := q24.2) P h25
  refine GR.bind e27 ?_
  by_cases c28 : q24.1 = 0
  · replace hF := ite_t c28 hF
    refine GR.t c28 ?_
    refine GR.bind (P.rI (k := 15) h0 (by decide) (by decide) (by decide)) ?_
    obtain ⟨f1, f2⟩ := finW hF
    subst f1
    subst f2
    exact GR.ret P
  replace hF := ite_f c28 hF
  refine GR.f c28 ?_
  refine GR.bind (P.rI (k := 15) h0 (by decide) (by decide) (by decide)) ?_
  obtain ⟨f1, f2⟩ := finW hF
  subst f1
  subst f2
  exact GR.ret P
def FX9_ofMarch_90 (k30 : HS → Nat → Int32 → Int32 → Int32 → Int32 → Int32 → Option (Int32 × HS)) (k55 : HS → Nat → Int32 → Int32 → Int32 → Int32 → Int32 → Int32 → Option (Int32 × HS)) (w : HS) (v0 : Nat) (v1 : Int32) (v2 : Int32) (v3 : Int32) (v5 : Int32) (v6 : Int32) (s0 : Int32) (s1 : Int32) : Option (Int32 × HS) :=
  k55 w v0 v1 v2 v3 (s1 + s0) v5 (v6 + (1 : Int32))
set_option maxHeartbeats 4000000 in
set_option maxRecDepth 100000 in
theorem rX9_ofMarch_90 {ar : Nat → Nat → Nat} {c0 : Nat → Nat} {sz : Nat} {r : Int32} {w' : HS} {k30 : HS → Nat → Int32 → Int32 → Int32 → Int32 → Int32 → Option (Int32 × HS)} {j30 : PH → Nat → Int32 → Int32 → Int32 → Int32 → Int32 → Option (Int32 × PH)} {k55 : HS → Nat → Int32 → Int32 → Int32 → Int32 → Int32 → Int32 → Option (Int32 × HS)} {j55 : PH → Nat → Int32 → Int32 → Int32 → Int32 → Int32 → Int32 → Option (Int32 × PH)} (hk30 : ∀ (g : PH) (w : HS) (v0 : Nat) (v1 : Int32) (v2 : Int32) (v3 : Int32) (v4 : Int32) (v5 : Int32), c0 v0 = 9 → Rel ar c0 sz g w → k30 w v0 v1 v2 v3 v4 v5 = some (r, w') → GR ar c0 sz r w' (j30 g v0 v1 v2 v3 v4 v5)) (hk55 : ∀ (g : PH) (w : HS) (v0 : Nat) (v1 : Int32) (v2 : Int32) (v3 : Int32) (v4 : Int32) (v5 : Int32) (v6 : Int32), c0 v0 = 9 → Rel ar c0 sz g w → k55 w v0 v1 v2 v3 v4 v5 v6 = some (r, w') → GR ar c0 sz r w' (j55 g v0 v1 v2 v3 v4 v5 v6)) {g : PH} {w : HS} {v0 : Nat} {v1 : Int32} {v2 : Int32} {v3 : Int32} {v5 : Int32} {v6 : Int32} {s0 : Int32} {s1 : Int32} (h0 : c0 v0 = 9) (P : Rel ar c0 sz g w) (hF : FX9_ofMarch_90 k30 k55 w v0 v1 v2 v3 v5 v6 s0 s1 = some (r, w')) : GR ar c0 sz r w' (fX9_ofMarch_90 j30 j55 g v0 v1 v2 v3 v5 v6 s0 s1) := by
  unfold FX9_ofMarch_90 at hF
  unfold fX9_ofMarch_90
  exact hk55 _ _ _ _ _ _ _ _ _ h0 P hF
def FX9_ofMarch_55 (k30 : HS → Nat → Int32 → Int32 → Int32 → Int32 → Int32 → Option (Int32 × HS)) : Nat → HS → Nat → Int32 → Int32 → Int32 → Int32 → Int32 → Int32 → Option (Int32 × HS)
  | 0, _, _, _, _, _, _, _, _ => none
  | n + 1, w, v0, v1, v2, v3, v4, v5, v6 =>
  (FX9_elementAt w v0 v1 v5 (1 : Int32)).bind fun q1 =>
  (if q1.1 ≤ v6 then (k30 q1.2 v0 v1 v2 v3 v4 (v5 + (1 : Int32))) else
  ((FX9_elementAt q1.2 v0 v1 v5 ((2 : Int32) + v6)).bind fun q6 =>
  (if (2 : Int32) ≤ q6.1 then (FX9_ofMarch_90 (k30) (FX9_ofMarch_55 k30 n) q6.2 v0 v1 v2 v3 v5 v6 (0 : Int32) v4) else
  (FX9_ofMarch_90 (k30) (FX9_ofMarch_55 k30 n) q6.2 v0 v1 v2 v3 v5 v6 (1 : Int32) v4))))
set_option maxHeartbeats 4000000 in
set_option maxRecDepth 100000 in
theorem rX9_ofMarch_55 {ar : Nat → Nat → Nat} {c0 : Nat → Nat} {sz : Nat} {r : Int32} {w' : HS} {k30 : HS → Nat → Int32 → Int32 → Int32 → Int32 → Int32 → Option (Int32 × HS)} {j30 : PH → Nat → Int32 → Int32 → Int32 → Int32 → Int32 → Option (Int32 × PH)} (hk30 : ∀ (g : PH) (w : HS) (v0 : Nat) (v1 : Int32) (v2 : Int32) (v3 : Int32) (v4 : Int32) (v5 : Int32), c0 v0 = 9 → Rel ar c0 sz g w → k30 w v0 v1 v2 v3 v4 v5 = some (r, w') → GR ar c0 sz r w' (j30 g v0 v1 v2 v3 v4 v5)) : ∀ (n : Nat) (g : PH) (w : HS) (v0 : Nat) (v1 : Int32) (v2 : Int32) (v3 : Int32) (v4 : Int32) (v5 : Int32) (v6 : Int32), c0 v0 = 9 → Rel ar c0 sz g w → FX9_ofMarch_55 k30 n w v0 v1 v2 v3 v4 v5 v6 = some (r, w') → GR ar c0 sz r w' (fX9_ofMarch_55 j30 n g v0 v1 v2 v3 v4 v5 v6) := by
  intro n
  induction n with
  | zero =>
    intro g w v0 v1 v2 v3 v4 v5 v6 h0 P hF
    rw [FX9_ofMarch_55] at hF
    cases hF
  | succ n ih =>
    intro g w v0 v1 v2 v3 v4 v5 v6 h0 P hF
    rw [FX9_ofMarch_55] at hF
    rw [fX9_ofMarch_55]
    replace hF := ob_some hF
    obtain ⟨q1, h2, hF⟩ := hF
    obtain ⟨g3, e4, P⟩ := rX9_elementAt (r := q1.1) (w' := q1.2) P h2
    refine GR.bind e4 ?_
    by_cases c5 : q1.1 ≤ v6
    · replace hF := ite_t c5 hF
      refine GR.t c5 ?_
      exact hk30 _ _ _ _ _ _ _ _ h0 P hF
    replace hF := ite_f c5 hF
    refine GR.f c5 ?_
    replace hF := ob_some hF
    obtain ⟨q6, h7, hF⟩ := hF
    obtain ⟨g8, e9, P⟩ := rX9_elementAt (r := q6.1) (w' := q6.2) P h7
    refine GR.bind e9 ?_
    by_cases c10 : (2 : Int32) ≤ q6.1
    · replace hF := ite_t c10 hF
      refine GR.t c10 ?_
      exact rX9_ofMarch_90 hk30 ih h0 P hF
    replace hF := ite_f c10 hF
    refine GR.f c10 ?_
    exact rX9_ofMarch_90 hk30 ih h0 P hF
def FX9_ofMarch_30  : Nat → HS → Nat → Int32 → Int32 → Int32 → Int32 → Int32 → Option (Int32 × HS)
  | 0, _, _, _, _, _, _, _ => none
  | n + 1, w, v0, v1, v2, v3, v4, v5 =>
  okb (inb v1 7) (if (ha w v0 9 v1.toNatClampNeg) ≤ v5 then (if v2 = 0 then (okb (inb v1 7) (some ((ha w v0 9 v1.toNatClampNeg), w))) else
  (if v2 = (1 : Int32) then (some (v3, w)) else
  (if v2 = (2 : Int32) then (some (v4, w)) else
  (if v2 = (3 : Int32) then ((FX9_anys w v0 v1).bind fun q8 =>
  (some (q8.1, q8.2))) else
  (okb (inb v1 7) (some ((ha w v0 10 v1.toNatClampNeg), w))))))) else
  ((FX9_elementAt w v0 v1 v5 (1 : Int32)).bind fun q13 =>
  (FX9_ofMarch_55 (FX9_ofMarch_30 n) FUEL q13.2 v0 v1 v2 (v3 + q13.1) v4 v5 (0 : Int32))))
set_option maxHeartbeats 4000000 in
set_option maxRecDepth 100000 in
theorem rX9_ofMarch_30 {ar : Nat → Nat → Nat} {c0 : Nat → Nat} {sz : Nat} {r : Int32} {w' : HS}   : ∀ (n : Nat) (g : PH) (w : HS) (v0 : Nat) (v1 : Int32) (v2 : Int32) (v3 : Int32) (v4 : Int32) (v5 : Int32), c0 v0 = 9 → Rel ar c0 sz g w → FX9_ofMarch_30  n w v0 v1 v2 v3 v4 v5 = some (r, w') → GR ar c0 sz r w' (fX9_ofMarch_30  n g v0 v1 v2 v3 v4 v5) := by
  intro n
  induction n with
  | zero =>
    intro g w v0 v1 v2 v3 v4 v5 h0 P hF
    rw [FX9_ofMarch_30] at hF
    cases hF
  | succ n ih =>
    intro g w v0 v1 v2 v3 v4 v5 h0 P hF
    rw [FX9_ofMarch_30] at hF
    rw [fX9_ofMarch_30]
    refine GR.bind (P.getRa (k := 9) h0 (by decide) (by decide) (by decide)) ?_
    replace hF := okb_some hF
    obtain ⟨h1, hF⟩ := hF
    refine GR.bind (P.dI (k := 9) (n := v1.toNatClampNeg) h0 (by decide) (by decide) (by decide) (by decide) h1 rfl) ?_
    by_cases c2 : (ha w v0 9 v1.toNatClampNeg) ≤ v5
    · replace hF := ite_t c2 hF
      refine GR.t c2 ?_
      by_cases c3 : v2 = 0
      · replace hF := ite_t c3 hF
        refine GR.t c3 ?_
        refine GR.bind (P.getRa (k := 9) h0 (by decide) (by decide) (by decide)) ?_
        replace hF := okb_some hF
        obtain ⟨h4, hF⟩ := hF
        refine GR.bind (P.dI (k := 9) (n := v1.toNatClampNeg) h0 (by decide) (by decide) (by decide) (by decide) h4 rfl) ?_
        obtain ⟨f1, f2⟩ := finW hF
        subst f1
        subst f2
        exact GR.ret P
      replace hF := ite_f c3 hF
      refine GR.f c3 ?_
      by_cases c5 : v2 = (1 : Int32)
      · replace hF := ite_t c5 hF
        refine GR.t c5 ?_
        obtain ⟨f1, f2⟩ := finW hF
        subst f1
        subst f2
        exact GR.ret P
      replace hF := ite_f c5 hF
      refine GR.f c5 ?_
      by_cases c6 : v2 = (2 : Int32)
      · replace hF := ite_t c6 hF
        refine GR.t c6 ?_
        obtain ⟨f1, f2⟩ := finW hF
        subst f1
        subst f2
        exact GR.ret P
      replace hF := ite_f c6 hF
      refine GR.f c6 ?_
      by_cases c7 : v2 = (3 : Int32)
      · replace hF := ite_t c7 hF
        refine GR.t c7 ?_
        replace hF := ob_some hF
        obtain ⟨q8, h9, hF⟩ := hF
        obtain ⟨g10, e11, P⟩ := rX9_anys (r := q8.1) (w' := q8.2) P h9
        refine GR.bind e11 ?_
        obtain ⟨f1, f2⟩ := finW hF
        subst f1
        subst f2
        exact GR.ret P
      replace hF := ite_f c7 hF
      refine GR.f c7 ?_
      refine GR.bind (P.getRa (k := 10) h0 (by decide) (by decide) (by decide)) ?_
      replace hF := okb_some hF
      obtain ⟨h12, hF⟩ := hF
      refine GR.bind (P.dI (k := 10) (n := v1.toNatClampNeg) h0 (by decide) (by decide) (by decide) (by decide) h12 rfl) ?_
      obtain ⟨f1, f2⟩ := finW hF
      subst f1
      subst f2
      exact GR.ret P
    replace hF := ite_f c2 hF
    refine GR.f c2 ?_
    replace hF := ob_some hF
    obtain ⟨q13, h14, hF⟩ := hF
    obtain ⟨g15, e16, P⟩ := rX9_elementAt (r := q13.1) (w' := q13.2) P h14
    refine GR.bind e16 ?_
    exact rX9_ofMarch_55 ih _ _ _ _ _ _ _ _ _ _ h0 P hF
def FX9_ofMarch (w : HS) (a0 : Nat) (a1 : Int32) (a2 : Int32) : Option (Int32 × HS) :=
  okb (hc w a0 == 9) ((FX9_isMarch w a0 a1).bind fun q1 =>
  (if q1.1 = 0 then (some ((-1 : Int32), q1.2)) else
  ((FX9_isIn q1.2 a2.toInt64 (0 : Int64) (4 : Int64)).bind fun q6 =>
  (if q6.1 = 0 then (some ((-1 : Int32), q6.2)) else
  (FX9_ofMarch_30 FUEL q6.2 a0 a1 a2 (0 : Int32) (0 : Int32) (0 : Int32))))))
set_option maxHeartbeats 4000000 in
set_option maxRecDepth 100000 in
theorem rX9_ofMarch {ar : Nat → Nat → Nat} {c0 : Nat → Nat} {sz : Nat} {g : PH} {w w' : HS} {a0 : Nat} {a1 : Int32} {a2 : Int32} {r : Int32} (P : Rel ar c0 sz g w) (hF : FX9_ofMarch w a0 a1 a2 = some (r, w')) : GR ar c0 sz r w' (fX9_ofMarch g a0 a1 a2) := by
  unfold FX9_ofMarch at hF
  unfold fX9_ofMarch
  replace hF := okb_some hF
  obtain ⟨h0, hF⟩ := hF
  replace h0 := P.cls h0
  refine GR.ok (P.rO h0 (by decide)) ?_
  replace hF := ob_some hF
  obtain ⟨q1, h2, hF⟩ := hF
  obtain ⟨g3, e4, P⟩ := rX9_isMarch (r := q1.1) (w' := q1.2) P h2
  refine GR.bind e4 ?_
  by_cases c5 : q1.1 = 0
  · replace hF := ite_t c5 hF
    refine GR.t c5 ?_
    obtain ⟨f1, f2⟩ := finW hF
    subst f1
    subst f2
    exact GR.ret P
  replace hF := ite_f c5 hF
  refine GR.f c5 ?_
  replace hF := ob_some hF
  obtain ⟨q6, h7, hF⟩ := hF
  obtain ⟨g8, e9, P⟩ := rX9_isIn (r := q6.1) (w' := q6.2) P h7
  refine GR.bind e9 ?_
  by_cases c10 : q6.1 = 0
  · replace hF := ite_t c10 hF
    refine GR.t c10 ?_
    obtain ⟨f1, f2⟩ := finW hF
    subst f1
    subst f2
    exact GR.ret P
  replace hF := ite_f c10 hF
  refine GR.f c10 ?_
  exact rX9_ofMarch_30  _ _ _ _ _ _ _ _ _ h0 P hF
def FX9_element_58  (w : HS) (v0 : Nat) (v1 : Int32) (v2 : Int32) (v3 : Int32) : Option (Int32 × HS) :=
  (FX9_elementAt w v0 v1 v2 v3).bind fun q1 =>
  (some (q1.1, q1.2))
set_option maxHeartbeats 4000000 in
set_option maxRecDepth 100000 in
theorem rX9_element_58 {ar : Nat → Nat → Nat} {c0 : Nat → Nat} {sz : Nat} {r : Int32} {w' : HS}   {g : PH} {w : HS} {v0 : Nat} {v1 : Int32} {v2 : Int32} {v3 : Int32} (h0 : c0 v0 = 9) (P : Rel ar c0 sz g w) (hF : FX9_element_58  w v0 v1 v2 v3 = some (r, w')) : GR ar c0 sz r w' (fX9_element_58  g v0 v1 v2 v3) := by
  unfold FX9_element_58 at hF
  unfold fX9_element_58
  replace hF := ob_some hF
  obtain ⟨q1, h2, hF⟩ := hF
  obtain ⟨g3, e4, P⟩ := rX9_elementAt (r := q1.1) (w' := q1.2) P h2
  refine GR.bind e4 ?_
  obtain ⟨f1, f2⟩ := finW hF
  subst f1
  subst f2
  exact GR.ret P
def FX9_element (w : HS) (a0 : Nat) (a1 : Int32) (a2 : Int32) (a3 : Int32) : Option (Int32 × HS) :=
  okb (hc w a0 == 9) ((FX9_isMarch w a0 a1).bind fun q1 =>
  (if q1.1 = 0 then (some ((-1 : Int32), q1.2)) else
  (okb (inb a1 7) ((FX9_isIn q1.2 a2.toInt64 (0 : Int64) ((ha q1.2 a0 9 a1.toNatClampNeg) - (1 : Int32)).toInt64).bind fun q7 =>
  (if q7.1 = 0 then (some ((-1 : Int32), q7.2)) else
  ((FX9_isIn q7.2 a3.toInt64 (0 : Int64) (7 : Int64)).bind fun q12 =>
  (if q12.1 = 0 then (some ((-1 : Int32), q12.2)) else
  (if a3 ≤ (1 : Int32) then (FX9_element_58 q12.2 a0 a1 a2 a3) else
  ((FX9_elementAt q12.2 a0 a1 a2 (1 : Int32)).bind fun q18 =>
  (if (a3 - (2 : Int32)) < q18.1 then (FX9_element_58 q18.2 a0 a1 a2 a3) else
  (some ((-1 : Int32), q18.2))))))))))))
set_option maxHeartbeats 4000000 in
set_option maxRecDepth 100000 in
theorem rX9_element {ar : Nat → Nat → Nat} {c0 : Nat → Nat} {sz : Nat} {g : PH} {w w' : HS} {a0 : Nat} {a1 : Int32} {a2 : Int32} {a3 : Int32} {r : Int32} (P : Rel ar c0 sz g w) (hF : FX9_element w a0 a1 a2 a3 = some (r, w')) : GR ar c0 sz r w' (fX9_element g a0 a1 a2 a3) := by
  unfold FX9_element at hF
  unfold fX9_element
  replace hF := okb_some hF
  obtain ⟨h0, hF⟩ := hF
  replace h0 := P.cls h0
  refine GR.ok (P.rO h0 (by decide)) ?_
  replace hF := ob_some hF
  obtain ⟨q1, h2, hF⟩ := hF
  obtain ⟨g3, e4, P⟩ := rX9_isMarch (r := q1.1) (w' := q1.2) P h2
  refine GR.bind e4 ?_
  by_cases c5 : q1.1 = 0
  · replace hF := ite_t c5 hF
    refine GR.t c5 ?_
    obtain ⟨f1, f2⟩ := finW hF
    subst f1
    subst f2
    exact GR.ret P
  replace hF := ite_f c5 hF
  refine GR.f c5 ?_
  refine GR.bind (P.getRa (k := 9) h0 (by decide) (by decide) (by decide)) ?_
  replace hF := okb_some hF
  obtain ⟨h6, hF⟩ := hF
  refine GR.bind (P.dI (k := 9) (n := a1.toNatClampNeg) h0 (by decide) (by decide) (by decide) (by decide) h6 rfl) ?_
  replace hF := ob_some hF
  obtain ⟨q7, h8, hF⟩ := hF
  obtain ⟨g9, e10, P⟩ := rX9_isIn (r := q7.1) (w' := q7.2) P h8
  refine GR.bind e10 ?_
  by_cases c11 : q7.1 = 0
  · replace hF := ite_t c11 hF
    refine GR.t c11 ?_
    obtain ⟨f1, f2⟩ := finW hF
    subst f1
    subst f2
    exact GR.ret P
  replace hF := ite_f c11 hF
  refine GR.f c11 ?_
  replace hF := ob_some hF
  obtain ⟨q12, h13, hF⟩ := hF
  obtain ⟨g14, e15, P⟩ := rX9_isIn (r := q12.1) (w' := q12.2) P h13
  refine GR.bind e15 ?_
  by_cases c16 : q12.1 = 0
  · replace hF := ite_t c16 hF
    refine GR.t c16 ?_
    obtain ⟨f1, f2⟩ := finW hF
    subst f1
    subst f2
    exact GR.ret P
  replace hF := ite_f c16 hF
  refine GR.f c16 ?_
  by_cases c17 : a3 ≤ (1 : Int32)
  · replace hF := ite_t c17 hF
    refine GR.t c17 ?_
    exact rX9_element_58  h0 P hF
  replace hF := ite_f c17 hF
  refine GR.f c17 ?_
  replace hF := ob_some hF
  obtain ⟨q18, h19, hF⟩ := hF
  obtain ⟨g20, e21, P⟩ := rX9_elementAt (r := q18.1) (w' := q18.2) P h19
  refine GR.bind e21 ?_
  by_cases c22 : (a3 - (2 : Int32)) < q18.1
  · replace hF := ite_t c22 hF
    refine GR.t c22 ?_
    exact rX9_element_58  h0 P hF
  replace hF := ite_f c22 hF
  refine GR.f c22 ?_
  obtain ⟨f1, f2⟩ := finW hF
  subst f1
  subst f2
  exact GR.ret P
def FX9_caught_72 (k28 : HS → Nat → Int32 → Int32 → Int32 → Int32 → Int32 → Option (Int32 × HS)) (w : HS) (v0 : Nat) (v1 : Int32) (v2 : Int32) (v3 : Int32) (v5 : Int32) (s0 : Int32) (s1 : Int32) : Option (Int32 × HS) :=
  k28 w v0 v1 v2 v3 (s1 + s0) (v5 + (1 : Int32))
set_option maxHeartbeats 4000000 in
set_option maxRecDepth 100000 in
theorem rX9_caught_72 {ar : Nat → Nat → Nat} {c0 : Nat → Nat} {sz : Nat} {r : Int32} {w' : HS} {k28 : HS → Nat → Int32 → Int32 → Int32 → Int32 → Int32 → Option (Int32 × HS)} {j28 : PH → Nat → Int32 → Int32 → Int32 → Int32 → Int32 → Option (Int32 × PH)} (hk28 : ∀ (g : PH) (w : HS) (v0 : Nat) (v1 : Int32) (v2 : Int32) (v3 : Int32) (v4 : Int32) (v5 : Int32), c0 v0 = 9 → Rel ar c0 sz g w → k28 w v0 v1 v2 v3 v4 v5 = some (r, w') → GR ar c0 sz r w' (j28 g v0 v1 v2 v3 v4 v5)) {g : PH} {w : HS} {v0 : Nat} {v1 : Int32} {v2 : Int32} {v3 : Int32} {v5 : Int32} {s0 : Int32} {s1 : Int32} (h0 : c0 v0 = 9) (P : Rel ar c0 sz g w) (hF : FX9_caught_72 k28 w v0 v1 v2 v3 v5 s0 s1 = some (r, w')) : GR ar c0 sz r w' (fX9_caught_72 j28 g v0 v1 v2 v3 v5 s0 s1) := by
  unfold FX9_caught_72 at hF
  unfold fX9_caught_72
  exact hk28 _ _ _ _ _ _ _ _ h0 P hF
def FX9_caught_71 (k28 : HS → Nat → Int32 → Int32 → Int32 → Int32 → Int32 → Option (Int32 × HS)) (w : HS) (v0 : Nat) (v1 : Int32) (v2 : Int32) (v3 : Int32) (v5 : Int32) (s0 : Int32) : Option (Int32 × HS) :=
  FX9_caught_72 (k28) w v0 v1 v2 v3 v5 (0 : Int32) s0
set_option maxHeartbeats 4000000 in
set_option maxRecDepth 100000 in
theorem rX9_caught_71 {ar : Nat → Nat → Nat} {c0 : Nat → Nat} {sz : Nat} {r : Int32} {w' : HS} {k28 : HS → Nat → Int32 → Int32 → Int32 → Int32 → Int32 → Option (Int32 × HS)} {j28 : PH → Nat → Int32 → Int32 → Int32 → Int32 → Int32 → Option (Int32 × PH)} (hk28 : ∀ (g : PH) (w : HS) (v0 : Nat) (v1 : Int32) (v2 : Int32) (v3 : Int32) (v4 : Int32) (v5 : Int32), c0 v0 = 9 → Rel ar c0 sz g w → k28 w v0 v1 v2 v3 v4 v5 = some (r, w') → GR ar c0 sz r w' (j28 g v0 v1 v2 v3 v4 v5)) {g : PH} {w : HS} {v0 : Nat} {v1 : Int32} {v2 : Int32} {v3 : Int32} {v5 : Int32} {s0 : Int32} (h0 : c0 v0 = 9) (P : Rel ar c0 sz g w) (hF : FX9_caught_71 k28 w v0 v1 v2 v3 v5 s0 = some (r, w')) : GR ar c0 sz r w' (fX9_caught_71 j28 g v0 v1 v2 v3 v5 s0) := by
  unfold FX9_caught_71 at hF
  unfold fX9_caught_71
  exact rX9_caught_72 hk28 h0 P hF
def FX9_caught_58 (k28 : HS → Nat → Int32 → Int32 → Int32 → Int32 → Int32 → Option (Int32 × HS)) (w : HS) (v0 : Nat) (v1 : Int32) (v2 : Int32) (v3 : Int32) (v5 : Int32) (s0 : Int32) : Option (Int32 × HS) :=
  (FX9_escapeOf w v0 v1 v2).bind fun q1 =>
  (if 0 ≤ q1.1 then (FX9_caught_71 (k28) q1.2 v0 v1 v2 v3 v5 s0) else
  (FX9_caught_72 (k28) q1.2 v0 v1 v2 v3 v5 (1 : Int32) s0))
set_option maxHeartbeats 4000000 in
set_option maxRecDepth 100000 in
theorem rX9_caught_58 {ar : Nat → Nat → Nat} {c0 : Nat → Nat} {sz : Nat} {r : Int32} {w' : HS} {k28 : HS → Nat → Int32 → Int32 → Int32 → Int32 → Int32 → Option (Int32 × HS)} {j28 : PH → Nat → Int32 → Int32 → Int32 → Int32 → Int32 → Option (Int32 × PH)} (hk28 : ∀ (g : PH) (w : HS) (v0 : Nat) (v1 : Int32) (v2 : Int32) (v3 : Int32) (v4 : Int32) (v5 : Int32), c0 v0 = 9 → Rel ar c0 sz g w → k28 w v0 v1 v2 v3 v4 v5 = some (r, w') → GR ar c0 sz r w' (j28 g v0 v1 v2 v3 v4 v5)) {g : PH} {w : HS} {v0 : Nat} {v1 : Int32} {v2 : Int32} {v3 : Int32} {v5 : Int32} {s0 : Int32} (h0 : c0 v0 = 9) (P : Rel ar c0 sz g w) (hF : FX9_caught_58 k28 w v0 v1 v2 v3 v5 s0 = some (r, w')) : GR ar c0 sz r w' (fX9_caught_58 j28 g v0 v1 v2 v3 v5 s0) := by
  unfold FX9_caught_58 at hF
  unfold fX9_caught_58
  replace hF := ob_some hF
  obtain ⟨q1, h2, hF⟩ := hF
  obtain ⟨g3, e4, P⟩ := rX9_escapeOf (r := q1.1) (w' := q1.2) P h2
  refine GR.bind e4 ?_
  by_cases c5 : 0 ≤ q1.1
  · replace hF := ite_t c5 hF
    refine GR.t c5 ?_
    exact rX9_caught_71 hk28 h0 P hF
  replace hF := ite_f c5 hF
  refine GR.f c5 ?_
  exact rX9_caught_72 hk28 h0 P hF
def FX9_caught_28  : Nat → HS → Nat → Int32 → Int32 → Int32 → Int32 → Int32 → Option (Int32 × HS)
  | 0, _, _, _, _, _, _, _ => none
  | n + 1, w, v0, v1, v2, v3, v4, v5 =>
  (FX9_placements w v0 v2).bind fun q1 =>
  (if q1.1 ≤ v5 then ((FX9_laysBack q1.2 v0).bind fun q6 =>
  (some (v4, q6.2))) else
  ((FX9_laysPlace q1.2 v0 v2 v5).bind fun q10 =>
  (if v3 = 0 then (FX9_caught_58 (FX9_caught_28 n) q10.2 v0 v1 v2 v3 v5 v4) else
  ((FX9_isNear q10.2 v0).bind fun q15 =>
  (if q15.1 = 0 then (FX9_caught_71 (FX9_caught_28 n) q15.2 v0 v1 v2 v3 v5 v4) else
  (FX9_caught_58 (FX9_caught_28 n) q15.2 v0 v1 v2 v3 v5 v4))))))
set_option maxHeartbeats 4000000 in
set_option maxRecDepth 100000 in
theorem rX9_caught_28 {ar : Nat → Nat → Nat} {c0 : Nat → Nat} {sz : Nat} {r : Int32} {w' : HS}   : ∀ (n : Nat) (g : PH) (w : HS) (v0 : Nat) (v1 : Int32) (v2 : Int32) (v3 : Int32) (v4 : Int32) (v5 : Int32), c0 v0 = 9 → Rel ar c0 sz g w → FX9_caught_28  n w v0 v1 v2 v3 v4 v5 = some (r, w') → GR ar c0 sz r w' (fX9_caught_28  n g v0 v1 v2 v3 v4 v5) := by
  intro n
  induction n with
  | zero =>
    intro g w v0 v1 v2 v3 v4 v5 h0 P hF
    rw [FX9_caught_28] at hF
    cases hF
  | succ n ih =>
    intro g w v0 v1 v2 v3 v4 v5 h0 P hF
    rw [FX9_caught_28] at hF
    rw [fX9_caught_28]
    replace hF := ob_some hF
    obtain ⟨q1, h2, hF⟩ := hF
    obtain ⟨g3, e4, P⟩ := rX9_placements (r := q1.1) (w' := q1.2) P h2
    refine GR.bind e4 ?_
    by_cases c5 : q1.1 ≤ v5
    · replace hF := ite_t c5 hF
      refine GR.t c5 ?_
      replace hF := ob_some hF
      obtain ⟨q6, h7, hF⟩ := hF
      obtain ⟨g8, e9, P⟩ := rX9_laysBack (r := q6.1) (w' := q6.2) P h7
      refine GR.bind e9 ?_
      obtain ⟨f1, f2⟩ := finW hF
      subst f1
      subst f2
      exact GR.ret P
    replace hF := ite_f c5 hF
    refine GR.f c5 ?_
    replace hF := ob_some hF
    obtain ⟨q10, h11, hF⟩ := hF
    obtain ⟨g12, e13, P⟩ := rX9_laysPlace (r := q10.1) (w' := q10.2) P h11
    refine GR.bind e13 ?_
    by_cases c14 : v3 = 0
    · replace hF := ite_t c14 hF
      refine GR.t c14 ?_
      exact rX9_caught_58 ih h0 P hF
    replace hF := ite_f c14 hF
    refine GR.f c14 ?_
    replace hF := ob_some hF
    obtain ⟨q15, h16, hF⟩ := hF
    obtain ⟨g17, e18, P⟩ := rX9_isNear (r := q15.1) (w' := q15.2) P h16
    refine GR.bind e18 ?_
    by_cases c19 : q15.1 = 0
    · replace hF := ite_t c19 hF
      refine GR.t c19 ?_
      exact rX9_caught_71 ih h0 P hF
    replace hF := ite_f c19 hF
    refine GR.f c19 ?_
    exact rX9_caught_58 ih h0 P hF
def FX9_caught (w : HS) (a0 : Nat) (a1 : Int32) (a2 : Int32) (a3 : Int32) : Option (Int32 × HS) :=
  okb (hc w a0 == 9) ((FX9_isMarch w a0 a1).bind fun q1 =>
  (if q1.1 = 0 then (some ((-1 : Int32), q1.2)) else
  ((FX9_isKind q1.2 a0 a2).bind fun q6 =>
  (if q6.1 = 0 then (some ((-1 : Int32), q6.2)) else
  ((FX9_keepsAside q6.2 a0).bind fun q11 =>
  (FX9_caught_28 FUEL q11.2 a0 a1 a2 a3 (0 : Int32) (0 : Int32)))))))
set_option maxHeartbeats 4000000 in
set_option maxRecDepth 100000 in
theorem rX9_caught {ar : Nat → Nat → Nat} {c0 : Nat → Nat} {sz : Nat} {g : PH} {w w' : HS} {a0 : Nat} {a1 : Int32} {a2 : Int32} {a3 : Int32} {r : Int32} (P : Rel ar c0 sz g w) (hF : FX9_caught w a0 a1 a2 a3 = some (r, w')) : GR ar c0 sz r w' (fX9_caught g a0 a1 a2 a3) := by
  unfold FX9_caught at hF
  unfold fX9_caught
  replace hF := okb_some hF
  obtain ⟨h0, hF⟩ := hF
  replace h0 := P.cls h0
  refine GR.ok (P.rO h0 (by decide)) ?_
  replace hF := ob_some hF
  obtain ⟨q1, h2, hF⟩ := hF
  obtain ⟨g3, e4, P⟩ := rX9_isMarch (r := q1.1) (w' := q1.2) P h2
  refine GR.bind e4 ?_
  by_cases c5 : q1.1 = 0
  · replace hF := ite_t c5 hF
    refine GR.t c5 ?_
    obtain ⟨f1, f2⟩ := finW hF
    subst f1
    subst f2
    exact GR.ret P
  replace hF := ite_f c5 hF
  refine GR.f c5 ?_
  replace hF := ob_some hF
  obtain ⟨q6, h7, hF⟩ := hF
  obtain ⟨g8, e9, P⟩ := rX9_isKind (r := q6.1) (w' := q6.2) P h7
  refine GR.bind e9 ?_
  by_cases c10 : q6.1 = 0
  · replace hF := ite_t c10 hF
    refine GR.t c10 ?_
    obtain ⟨f1, f2⟩ := finW hF
    subst f1
    subst f2
    exact GR.ret P
  replace hF := ite_f c10 hF
  refine GR.f c10 ?_
  replace hF := ob_some hF
  obtain ⟨q11, h12, hF⟩ := hF
  obtain ⟨g13, e14, P⟩ := rX9_keepsAside (r := q11.1) (w' := q11.2) P h12
  refine GR.bind e14 ?_
  exact rX9_caught_28  _ _ _ _ _ _ _ _ _ h0 P hF
