def FX1_scanBody_140  (w : HS) (v0 : Nat) (v1 : Nat) (v2 : Int32) (v4 : Int32) (s0 : Nat) (s1 : Nat) (s2 : Int32) (s3 : Nat) : Option (Unit × HS) :=
  (FX6_take w s1 s0).bind fun q1 =>
  (okb (hc q1.2 s3 == 1) (okb (inb s2 4) (bnd (setA q1.2 s3 5 s2.toNatClampNeg q1.1) fun w9 =>
  (if v4 = 0 then (some ((), w9)) else
  (if v2 = 0 then ((FX6_take w9 v1 5).bind fun q13 =>
  ((FX6_take q13.2 v1 1).bind fun q17 =>
  (okb (inb (hi q13.2 v0 0) 4) (bnd (setA q17.2 v0 6 (hi q13.2 v0 0).toNatClampNeg q17.1) fun w24 =>
  (some ((), w24)))))) else
  (some ((), w9)))))))
set_option maxHeartbeats 4000000 in
set_option maxRecDepth 100000 in
theorem rX1_scanBody_140 {ar : Nat → Nat → Nat} {c0 : Nat → Nat} {sz : Nat} {r : Unit} {w' : HS}   {g : PH} {w : HS} {v0 : Nat} {v1 : Nat} {v2 : Int32} {v4 : Int32} {s0 : Nat} {s1 : Nat} {s2 : Int32} {s3 : Nat} (h0 : c0 v0 = 1) (P : Rel ar c0 sz g w) (hF : FX1_scanBody_140  w v0 v1 v2 v4 s0 s1 s2 s3 = some (r, w')) : GR ar c0 sz r w' (fX1_scanBody_140  g v0 v1 v2 v4 s0 s1 s2 (ar s3 5)) := by
  unfold FX1_scanBody_140 at hF
  unfold fX1_scanBody_140
  replace hF := ob_some hF
  obtain ⟨q1, h2, hF⟩ := hF
  obtain ⟨g3, e4, P⟩ := rX6_take (r := q1.1) (w' := q1.2) P h2
  refine GR.bind e4 ?_
  replace hF := okb_some hF
  obtain ⟨h5, hF⟩ := hF
  replace h5 := P.cls h5
  replace hF := okb_some hF
  obtain ⟨h6, hF⟩ := hF
  replace hF := bnd_e hF
  obtain ⟨w9, e10, hF⟩ := hF
  obtain ⟨g7, e8, P⟩ := P.sI (k := 5) (kd := 0) (j := s2) h5 (by decide) (by decide) (by decide) (by decide) h6 rfl e10
  refine GR.bind e8 ?_
  by_cases c11 : v4 = 0
  · replace hF := ite_t c11 hF
    refine GR.t c11 ?_
    obtain ⟨f1, f2⟩ := finW hF
    subst f1
    subst f2
    exact GR.ret P
  replace hF := ite_f c11 hF
  refine GR.f c11 ?_
  by_cases c12 : v2 = 0
  · replace hF := ite_t c12 hF
    refine GR.t c12 ?_
    replace hF := ob_some hF
    obtain ⟨q13, h14, hF⟩ := hF
    obtain ⟨g15, e16, P⟩ := rX6_take (r := q13.1) (w' := q13.2) P h14
    refine GR.bind e16 ?_
    refine GR.bind (P.getRa (k := 6) h0 (by decide) (by decide) (by decide)) ?_
    refine GR.bind (P.rI (k := 0) h0 (by decide) (by decide) (by decide)) ?_
    replace hF := ob_some hF
    obtain ⟨q17, h18, hF⟩ := hF
    obtain ⟨g19, e20, P⟩ := rX6_take (r := q17.1) (w' := q17.2) P h18
    refine GR.bind e20 ?_
    replace hF := okb_some hF
    obtain ⟨h21, hF⟩ := hF
    replace hF := bnd_e hF
    obtain ⟨w24, e25, hF⟩ := hF
    obtain ⟨g22, e23, P⟩ := P.sI (k := 6) (kd := 0) (j := (hi q13.2 v0 0)) h0 (by decide) (by decide) (by decide) (by decide) h21 rfl e25
    refine GR.bind e23 ?_
    obtain ⟨f1, f2⟩ := finW hF
    subst f1
    subst f2
    exact GR.ret P
  replace hF := ite_f c12 hF
  refine GR.f c12 ?_
  obtain ⟨f1, f2⟩ := finW hF
  subst f1
  subst f2
  exact GR.ret P
def FX1_scanBody_112  (w : HS) (v0 : Nat) (v1 : Nat) (v2 : Int32) (v4 : Int32) : Option (Unit × HS) :=
  (FX6_take w v1 3).bind fun q1 =>
  (if v2 = (1 : Int32) then (FX1_scanBody_140 q1.2 v0 v1 v2 v4 4 v1 (hi q1.2 v0 0) v0) else
  (FX1_scanBody_140 q1.2 v0 v1 v2 v4 1 v1 (hi q1.2 v0 0) v0))
set_option maxHeartbeats 4000000 in
set_option maxRecDepth 100000 in
theorem rX1_scanBody_112 {ar : Nat → Nat → Nat} {c0 : Nat → Nat} {sz : Nat} {r : Unit} {w' : HS}   {g : PH} {w : HS} {v0 : Nat} {v1 : Nat} {v2 : Int32} {v4 : Int32} (h0 : c0 v0 = 1) (P : Rel ar c0 sz g w) (hF : FX1_scanBody_112  w v0 v1 v2 v4 = some (r, w')) : GR ar c0 sz r w' (fX1_scanBody_112  g v0 v1 v2 v4) := by
  unfold FX1_scanBody_112 at hF
  unfold fX1_scanBody_112
  replace hF := ob_some hF
  obtain ⟨q1, h2, hF⟩ := hF
  obtain ⟨g3, e4, P⟩ := rX6_take (r := q1.1) (w' := q1.2) P h2
  refine GR.bind e4 ?_
  refine GR.bind (P.getRa (k := 5) h0 (by decide) (by decide) (by decide)) ?_
  refine GR.bind (P.rI (k := 0) h0 (by decide) (by decide) (by decide)) ?_
  by_cases c5 : v2 = (1 : Int32)
  · replace hF := ite_t c5 hF
    refine GR.t c5 ?_
    exact rX1_scanBody_140  h0 P hF
  replace hF := ite_f c5 hF
  refine GR.f c5 ?_
  exact rX1_scanBody_140  h0 P hF
def FX1_scanBody_93  (w : HS) (v0 : Nat) (v1 : Nat) (v2 : Int32) (v4 : Int32) (s0 : Int32) (s1 : Int32) (s2 : Nat) : Option (Unit × HS) :=
  okb (hc w s2 == 1) (okb (inb s1 4) (bnd (setA w s2 2 s1.toNatClampNeg s0) fun w5 =>
  (FX1_scanBody_112 w5 v0 v1 v2 v4)))
set_option maxHeartbeats 4000000 in
set_option maxRecDepth 100000 in
theorem rX1_scanBody_93 {ar : Nat → Nat → Nat} {c0 : Nat → Nat} {sz : Nat} {r : Unit} {w' : HS}   {g : PH} {w : HS} {v0 : Nat} {v1 : Nat} {v2 : Int32} {v4 : Int32} {s0 : Int32} {s1 : Int32} {s2 : Nat} (h0 : c0 v0 = 1) (P : Rel ar c0 sz g w) (hF : FX1_scanBody_93  w v0 v1 v2 v4 s0 s1 s2 = some (r, w')) : GR ar c0 sz r w' (fX1_scanBody_93  g v0 v1 v2 v4 s0 s1 (ar s2 2)) := by
  unfold FX1_scanBody_93 at hF
  unfold fX1_scanBody_93
  replace hF := okb_some hF
  obtain ⟨h1, hF⟩ := hF
  replace h1 := P.cls h1
  replace hF := okb_some hF
  obtain ⟨h2, hF⟩ := hF
  replace hF := bnd_e hF
  obtain ⟨w5, e6, hF⟩ := hF
  obtain ⟨g3, e4, P⟩ := P.sI (k := 2) (kd := 0) (j := s1) h1 (by decide) (by decide) (by decide) (by decide) h2 rfl e6
  refine GR.bind e4 ?_
  exact rX1_scanBody_112  h0 P hF
def FX1_scanBody_67  (w : HS) (v0 : Nat) (v1 : Nat) (v2 : Int32) (s0 : Int32) : Option (Unit × HS) :=
  if s0 = 0 then ((FX6_take w v1 1).bind fun q2 =>
  (okb (inb (hi w v0 0) 4) (bnd (setA q2.2 v0 4 (hi w v0 0).toNatClampNeg q2.1) fun w9 =>
  (FX1_scanBody_112 w9 v0 v1 v2 s0)))) else
  (if v2 = 0 then (FX1_scanBody_93 w v0 v1 v2 s0 (7 : Int32) (hi w v0 0) v0) else
  (FX1_scanBody_93 w v0 v1 v2 s0 (8 : Int32) (hi w v0 0) v0))
set_option maxHeartbeats 4000000 in
set_option maxRecDepth 100000 in
theorem rX1_scanBody_67 {ar : Nat → Nat → Nat} {c0 : Nat → Nat} {sz : Nat} {r : Unit} {w' : HS}   {g : PH} {w : HS} {v0 : Nat} {v1 : Nat} {v2 : Int32} {s0 : Int32} (h0 : c0 v0 = 1) (P : Rel ar c0 sz g w) (hF : FX1_scanBody_67  w v0 v1 v2 s0 = some (r, w')) : GR ar c0 sz r w' (fX1_scanBody_67  g v0 v1 v2 s0) := by
  unfold FX1_scanBody_67 at hF
  unfold fX1_scanBody_67
  by_cases c1 : s0 = 0
  · replace hF := ite_t c1 hF
    refine GR.t c1 ?_
    refine GR.bind (P.getRa (k := 4) h0 (by decide) (by decide) (by decide)) ?_
    refine GR.bind (P.rI (k := 0) h0 (by decide) (by decide) (by decide)) ?_
    replace hF := ob_some hF
    obtain ⟨q2, h3, hF⟩ := hF
    obtain ⟨g4, e5, P⟩ := rX6_take (r := q2.1) (w' := q2.2) P h3
    refine GR.bind e5 ?_
    replace hF := okb_some hF
    obtain ⟨h6, hF⟩ := hF
    replace hF := bnd_e hF
    obtain ⟨w9, e10, hF⟩ := hF
    obtain ⟨g7, e8, P⟩ := P.sI (k := 4) (kd := 0) (j := (hi w v0 0)) h0 (by decide) (by decide) (by decide) (by decide) h6 rfl e10
    refine GR.bind e8 ?_
    exact rX1_scanBody_112  h0 P hF
  replace hF := ite_f c1 hF
  refine GR.f c1 ?_
  refine GR.bind (P.getRa (k := 2) h0 (by decide) (by decide) (by decide)) ?_
  refine GR.bind (P.rI (k := 0) h0 (by decide) (by decide) (by decide)) ?_
  by_cases c11 : v2 = 0
  · replace hF := ite_t c11 hF
    refine GR.t c11 ?_
    exact rX1_scanBody_93  h0 P hF
  replace hF := ite_f c11 hF
  refine GR.f c11 ?_
  exact rX1_scanBody_93  h0 P hF
def FX1_scanBody_48  (w : HS) (v0 : Nat) (v1 : Nat) (v2 : Int32) (v3 : Int32) (v4 : Int32) : Option (Unit × HS) :=
  if v3 = 0 then (FX1_scanBody_112 w v0 v1 v2 v4) else
  ((FX6_take w v1 2).bind fun q2 =>
  (if q2.1 = (1 : Int32) then (FX1_scanBody_67 q2.2 v0 v1 v2 (1 : Int32)) else
  (FX1_scanBody_67 q2.2 v0 v1 v2 (0 : Int32))))
set_option maxHeartbeats 4000000 in
set_option maxRecDepth 100000 in
theorem rX1_scanBody_48 {ar : Nat → Nat → Nat} {c0 : Nat → Nat} {sz : Nat} {r : Unit} {w' : HS}   {g : PH} {w : HS} {v0 : Nat} {v1 : Nat} {v2 : Int32} {v3 : Int32} {v4 : Int32} (h0 : c0 v0 = 1) (P : Rel ar c0 sz g w) (hF : FX1_scanBody_48  w v0 v1 v2 v3 v4 = some (r, w')) : GR ar c0 sz r w' (fX1_scanBody_48  g v0 v1 v2 v3 v4) := by
  unfold FX1_scanBody_48 at hF
  unfold fX1_scanBody_48
  by_cases c1 : v3 = 0
  · replace hF := ite_t c1 hF
    refine GR.t c1 ?_
    exact rX1_scanBody_112  h0 P hF
  replace hF := ite_f c1 hF
  refine GR.f c1 ?_
  replace hF := ob_some hF
  obtain ⟨q2, h3, hF⟩ := hF
  obtain ⟨g4, e5, P⟩ := rX6_take (r := q2.1) (w' := q2.2) P h3
  refine GR.bind e5 ?_
  by_cases c6 : q2.1 = (1 : Int32)
  · replace hF := ite_t c6 hF
    refine GR.t c6 ?_
    exact rX1_scanBody_67  h0 P hF
  replace hF := ite_f c6 hF
  refine GR.f c6 ?_
  exact rX1_scanBody_67  h0 P hF
def FX1_scanBody_33  (w : HS) (v0 : Nat) (v1 : Nat) (v2 : Int32) (v3 : Int32) (v4 : Int32) : Option (Unit × HS) :=
  (FX6_take w v1 1).bind fun q1 =>
  (okb (inb (hi w v0 0) 4) (bnd (setA q1.2 v0 3 (hi w v0 0).toNatClampNeg q1.1) fun w8 =>
  (FX1_scanBody_48 w8 v0 v1 v2 v3 v4)))
set_option maxHeartbeats 4000000 in
set_option maxRecDepth 100000 in
theorem rX1_scanBody_33 {ar : Nat → Nat → Nat} {c0 : Nat → Nat} {sz : Nat} {r : Unit} {w' : HS}   {g : PH} {w : HS} {v0 : Nat} {v1 : Nat} {v2 : Int32} {v3 : Int32} {v4 : Int32} (h0 : c0 v0 = 1) (P : Rel ar c0 sz g w) (hF : FX1_scanBody_33  w v0 v1 v2 v3 v4 = some (r, w')) : GR ar c0 sz r w' (fX1_scanBody_33  g v0 v1 v2 v3 v4) := by
  unfold FX1_scanBody_33 at hF
  unfold fX1_scanBody_33
  refine GR.bind (P.getRa (k := 3) h0 (by decide) (by decide) (by decide)) ?_
  refine GR.bind (P.rI (k := 0) h0 (by decide) (by decide) (by decide)) ?_
  replace hF := ob_some hF
  obtain ⟨q1, h2, hF⟩ := hF
  obtain ⟨g3, e4, P⟩ := rX6_take (r := q1.1) (w' := q1.2) P h2
  refine GR.bind e4 ?_
  replace hF := okb_some hF
  obtain ⟨h5, hF⟩ := hF
  replace hF := bnd_e hF
  obtain ⟨w8, e9, hF⟩ := hF
  obtain ⟨g6, e7, P⟩ := P.sI (k := 3) (kd := 0) (j := (hi w v0 0)) h0 (by decide) (by decide) (by decide) (by decide) h5 rfl e9
  refine GR.bind e7 ?_
  exact rX1_scanBody_48  h0 P hF
def FX1_scanBody_20  (w : HS) (v0 : Nat) (v1 : Nat) (v2 : Int32) (s0 : Int32) : Option (Unit × HS) :=
  if s0 = 0 then (if v2 = (2 : Int32) then (FX1_scanBody_33 w v0 v1 v2 s0 (0 : Int32)) else
  (FX1_scanBody_48 w v0 v1 v2 s0 (0 : Int32))) else
  (FX1_scanBody_33 w v0 v1 v2 s0 (0 : Int32))
set_option maxHeartbeats 4000000 in
set_option maxRecDepth 100000 in
theorem rX1_scanBody_20 {ar : Nat → Nat → Nat} {c0 : Nat → Nat} {sz : Nat} {r : Unit} {w' : HS}   {g : PH} {w : HS} {v0 : Nat} {v1 : Nat} {v2 : Int32} {s0 : Int32} (h0 : c0 v0 = 1) (P : Rel ar c0 sz g w) (hF : FX1_scanBody_20  w v0 v1 v2 s0 = some (r, w')) : GR ar c0 sz r w' (fX1_scanBody_20  g v0 v1 v2 s0) := by
  unfold FX1_scanBody_20 at hF
  unfold fX1_scanBody_20
  by_cases c1 : s0 = 0
  · replace hF := ite_t c1 hF
    refine GR.t c1 ?_
    by_cases c2 : v2 = (2 : Int32)
    · replace hF := ite_t c2 hF
      refine GR.t c2 ?_
      exact rX1_scanBody_33  h0 P hF
    replace hF := ite_f c2 hF
    refine GR.f c2 ?_
    exact rX1_scanBody_48  h0 P hF
  replace hF := ite_f c1 hF
  refine GR.f c1 ?_
  exact rX1_scanBody_33  h0 P hF
def FX1_scanBody_15  (w : HS) (v0 : Nat) (v1 : Nat) (v2 : Int32) : Option (Unit × HS) :=
  FX1_scanBody_20 w v0 v1 v2 (1 : Int32)
set_option maxHeartbeats 4000000 in
set_option maxRecDepth 100000 in
theorem rX1_scanBody_15 {ar : Nat → Nat → Nat} {c0 : Nat → Nat} {sz : Nat} {r : Unit} {w' : HS}   {g : PH} {w : HS} {v0 : Nat} {v1 : Nat} {v2 : Int32} (h0 : c0 v0 = 1) (P : Rel ar c0 sz g w) (hF : FX1_scanBody_15  w v0 v1 v2 = some (r, w')) : GR ar c0 sz r w' (fX1_scanBody_15  g v0 v1 v2) := by
  unfold FX1_scanBody_15 at hF
  unfold fX1_scanBody_15
  exact rX1_scanBody_20  h0 P hF
def FX1_scanBody (w : HS) (a0 : Nat) (a1 : Nat) (a2 : Int32) : Option (Unit × HS) :=
  okb (hc w a0 == 1) (if a2 = (5 : Int32) then (some ((), w)) else
  (if a2 = 0 then (FX1_scanBody_15 w a0 a1 a2) else
  (if a2 = (1 : Int32) then (FX1_scanBody_15 w a0 a1 a2) else
  (FX1_scanBody_20 w a0 a1 a2 (0 : Int32)))))
set_option maxHeartbeats 4000000 in
set_option maxRecDepth 100000 in
theorem rX1_scanBody {ar : Nat → Nat → Nat} {c0 : Nat → Nat} {sz : Nat} {g : PH} {w w' : HS} {a0 : Nat} {a1 : Nat} {a2 : Int32} {r : Unit} (P : Rel ar c0 sz g w) (hF : FX1_scanBody w a0 a1 a2 = some (r, w')) : GR ar c0 sz r w' (fX1_scanBody g a0 a1 a2) := by
  unfold FX1_scanBody at hF
  unfold fX1_scanBody
  replace hF := okb_some hF
  obtain ⟨h0, hF⟩ := hF
  replace h0 := P.cls h0
  refine GR.ok (P.rO h0 (by decide)) ?_
  by_cases c1 : a2 = (5 : Int32)
  · replace hF := ite_t c1 hF
    refine GR.t c1 ?_
    obtain ⟨f1, f2⟩ := finW hF
    subst f1
    subst f2
    exact GR.ret P
  replace hF := ite_f c1 hF
  refine GR.f c1 ?_
  by_cases c2 : a2 = 0
  · replace hF := ite_t c2 hF
    refine GR.t c2 ?_
    exact rX1_scanBody_15  h0 P hF
  replace hF := ite_f c2 hF
  refine GR.f c2 ?_
  by_cases c3 : a2 = (1 : Int32)
  · replace hF := ite_t c3 hF
    refine GR.t c3 ?_
    exact rX1_scanBody_15  h0 P hF
  replace hF := ite_f c3 hF
  refine GR.f c3 ?_
  exact rX1_scanBody_20  h0 P hF
def FX1_scanRule_76  (w : HS) (v1 : Nat) (v2 : Int32) : Option (Unit × HS) :=
  (FX6_blame w v1 v2 (3 : Int32)).bind fun q1 =>
  (some ((), q1.2))
set_option maxHeartbeats 4000000 in
set_option maxRecDepth 100000 in
theorem rX1_scanRule_76 {ar : Nat → Nat → Nat} {c0 : Nat → Nat} {sz : Nat} {r : Unit} {w' : HS}   {g : PH} {w : HS} {v1 : Nat} {v2 : Int32} (P : Rel ar c0 sz g w) (hF : FX1_scanRule_76  w v1 v2 = some (r, w')) : GR ar c0 sz r w' (fX1_scanRule_76  g v1 v2) := by
  unfold FX1_scanRule_76 at hF
  unfold fX1_scanRule_76
  replace hF := ob_some hF
  obtain ⟨q1, h2, hF⟩ := hF
  obtain ⟨g3, e4, P⟩ := rX6_blame (r := q1.1) (w' := q1.2) P h2
  refine GR.bind e4 ?_
  obtain ⟨f1, f2⟩ := finW hF
  subst f1
  subst f2
  exact GR.ret P
def FX1_scanRule_128  (w : HS) (v0 : Nat) (s0 : Nat) : Option (Unit × HS) :=
  okb (hc w s0 == 1) (bnd (setI w s0 1 (1 : Int32)) fun w2 =>
  (bnd (setI w2 v0 0 ((hi w2 v0 0) + (1 : Int32))) fun w6 =>
  (some ((), w6))))
set_option maxHeartbeats 4000000 in
set_option maxRecDepth 100000 in
theorem rX1_scanRule_128 {ar : Nat → Nat → Nat} {c0 : Nat → Nat} {sz : Nat} {r : Unit} {w' : HS}   {g : PH} {w : HS} {v0 : Nat} {s0 : Nat} (h0 : c0 v0 = 1) (P : Rel ar c0 sz g w) (hF : FX1_scanRule_128  w v0 s0 = some (r, w')) : GR ar c0 sz r w' (fX1_scanRule_128  g v0 s0) := by
  unfold FX1_scanRule_128 at hF
  unfold fX1_scanRule_128
  replace hF := okb_some hF
  obtain ⟨h1, hF⟩ := hF
  replace h1 := P.cls h1
  replace hF := bnd_e hF
  obtain ⟨w2, e3, hF⟩ := hF
  obtain ⟨g4, e5, P⟩ := P.putI (k := 1) h1 (by decide) (by decide) (by decide) e3
  refine GR.bind e5 ?_
  refine GR.bind (P.rI (k := 0) h0 (by decide) (by decide) (by decide)) ?_
  replace hF := bnd_e hF
  obtain ⟨w6, e7, hF⟩ := hF
  obtain ⟨g8, e9, P⟩ := P.putI (k := 0) h0 (by decide) (by decide) (by decide) e7
  refine GR.bind e9 ?_
  obtain ⟨f1, f2⟩ := finW hF
  subst f1
  subst f2
  exact GR.ret P
def FX1_scanRule_83  (w : HS) (v0 : Nat) (v1 : Nat) (v3 : Int32) : Option (Unit × HS) :=
  okb (inb (hi w v0 0) 4) (bnd (setA w v0 2 (hi w v0 0).toNatClampNeg v3) fun w4 =>
  ((FX1_scanBody w4 v0 v1 v3).bind fun q6 =>
  (if (hi q6.2 v0 1) = 0 then (if v3 = (1 : Int32) then (FX1_scanRule_128 q6.2 v0 v0) else
  (if v3 = (2 : Int32) then (FX1_scanRule_128 q6.2 v0 v0) else
  (if v3 = (5 : Int32) then (FX1_scanRule_128 q6.2 v0 v0) else
  (if v3 = (6 : Int32) then (FX1_scanRule_128 q6.2 v0 v0) else
  (bnd (setI q6.2 v0 1 (0 : Int32)) fun w15 =>
  (bnd (setI w15 v0 0 ((hi w15 v0 0) + (1 : Int32))) fun w19 =>
  (some ((), w19)))))))) else
  (FX1_scanRule_128 q6.2 v0 v0))))
set_option maxHeartbeats 4000000 in
set_option maxRecDepth 100000 in
theorem rX1_scanRule_83 {ar : Nat → Nat → Nat} {c0 : Nat → Nat} {sz : Nat} {r : Unit} {w' : HS}   {g : PH} {w : HS} {v0 : Nat} {v1 : Nat} {v3 : Int32} (h0 : c0 v0 = 1) (P : Rel ar c0 sz g w) (hF : FX1_scanRule_83  w v0 v1 v3 = some (r, w')) : GR ar c0 sz r w' (fX1_scanRule_83  g v0 v1 v3) := by
  unfold FX1_scanRule_83 at hF
  unfold fX1_scanRule_83
  refine GR.bind (P.getRa (k := 2) h0 (by decide) (by decide) (by decide)) ?_
  refine GR.bind (P.rI (k := 0) h0 (by decide) (by decide) (by decide)) ?_
  replace hF := okb_some hF
  obtain ⟨h1, hF⟩ := hF
  replace hF := bnd_e hF
  obtain ⟨w4, e5, hF⟩ := hF
  obtain ⟨g2, e3, P⟩ := P.sI (k := 2) (kd := 0) (j := (hi w v0 0)) h0 (by decide) (by decide) (by decide) (by decide) h1 rfl e5
  refine GR.bind e3 ?_
  replace hF := ob_some hF
  obtain ⟨q6, h7, hF⟩ := hF
  obtain ⟨g8, e9, P⟩ := rX1_scanBody (r := q6.1) (w' := q6.2) P h7
  refine GR.bind e9 ?_
  refine GR.bind (P.rI (k := 1) h0 (by decide) (by decide) (by decide)) ?_
  by_cases c10 : (hi q6.2 v0 1) = 0
  · replace hF := ite_t c10 hF
    refine GR.t c10 ?_
    by_cases c11 : v3 = (1 : Int32)
    · replace hF := ite_t c11 hF
      refine GR.t c11 ?_
      exact rX1_scanRule_128  h0 P hF
    replace hF := ite_f c11 hF
    refine GR.f c11 ?_
    by_cases c12 : v3 = (2 : Int32)
    · replace hF := ite_t c12 hF
      refine GR.t c12 ?_
      exact rX1_scanRule_128  h0 P hF
    replace hF := ite_f c12 hF
    refine GR.f c12 ?_
    by_cases c13 : v3 = (5 : Int32)
    · replace hF := ite_t c13 hF
      refine GR.t c13 ?_
      exact rX1_scanRule_128  h0 P hF
    replace hF := ite_f c13 hF
    refine GR.f c13 ?_
    by_cases c14 : v3 = (6 : Int32)
    · replace hF := ite_t c14 hF
      refine GR.t c14 ?_
      exact rX1_scanRule_128  h0 P hF
    replace hF := ite_f c14 hF
    refine GR.f c14 ?_
    replace hF := bnd_e hF
    obtain ⟨w15, e16, hF⟩ := hF
    obtain ⟨g17, e18, P⟩ := P.putI (k := 1) h0 (by decide) (by decide) (by decide) e16
    refine GR.bind e18 ?_
    refine GR.bind (P.rI (k := 0) h0 (by decide) (by decide) (by decide)) ?_
    replace hF := bnd_e hF
    obtain ⟨w19, e20, hF⟩ := hF
    obtain ⟨g21, e22, P⟩ := P.putI (k := 0) h0 (by decide) (by decide) (by decide) e20
    refine GR.bind e22 ?_
    obtain ⟨f1, f2⟩ := finW hF
    subst f1
    subst f2
    exact GR.ret P
  replace hF := ite_f c10 hF
  refine GR.f c10 ?_
  exact rX1_scanRule_128  h0 P hF
def FX1_scanRule (w : HS) (a0 : Nat) (a1 : Nat) : Option (Unit × HS) :=
  okb (hc w a0 == 1) ((FX6_nextPlace w a1).bind fun q1 =>
  ((FX6_take q1.2 a1 0).bind fun q5 =>
  (if q5.1 = (-1 : Int32) then (some ((), q5.2)) else
  (if (hi q5.2 a0 0) < (4 : Int32) then (if (hi q5.2 a0 0) ≤ 0 then (FX1_scanRule_83 q5.2 a0 a1 q5.1) else
  (if (4 : Int32) ≤ q5.1 then (FX1_scanRule_76 q5.2 a1 q1.1) else
  (if (ha q5.2 a0 2 0) = (4 : Int32) then (FX1_scanRule_76 q5.2 a1 q1.1) else
  (if (ha q5.2 a0 2 0) = (5 : Int32) then (FX1_scanRule_76 q5.2 a1 q1.1) else
  (if (ha q5.2 a0 2 0) = (6 : Int32) then (FX1_scanRule_76 q5.2 a1 q1.1) else
  (FX1_scanRule_83 q5.2 a0 a1 q5.1)))))) else
  ((FX6_blame q5.2 a1 q1.1 (2 : Int32)).bind fun q16 =>
  (some ((), q16.2)))))))
set_option maxHeartbeats 4000000 in
set_option maxRecDepth 100000 in
theorem rX1_scanRule {ar : Nat → Nat → Nat} {c0 : Nat → Nat} {sz : Nat} {g : PH} {w w' : HS} {a0 : Nat} {a1 : Nat} {r : Unit} (P : Rel ar c0 sz g w) (hF : FX1_scanRule w a0 a1 = some (r, w')) : GR ar c0 sz r w' (fX1_scanRule g a0 a1) := by
  unfold FX1_scanRule at hF
  unfold fX1_scanRule
  replace hF := okb_some hF
  obtain ⟨h0, hF⟩ := hF
  replace h0 := P.cls h0
  refine GR.ok (P.rO h0 (by decide)) ?_
  replace hF := ob_some hF
  obtain ⟨q1, h2, hF⟩ := hF
  obtain ⟨g3, e4, P⟩ := rX6_nextPlace (r := q1.1) (w' := q1.2) P h2
  refine GR.bind e4 ?_
  replace hF := ob_some hF
  obtain ⟨q5, h6, hF⟩ := hF
  obtain ⟨g7, e8, P⟩ := rX6_take (r := q5.1) (w' := q5.2) P h6
  refine GR.bind e8 ?_
  by_cases c9 : q5.1 = (-1 : Int32)
  · replace hF := ite_t c9 hF
    refine GR.t c9 ?_
    obtain ⟨f1, f2⟩ := finW hF
    subst f1
    subst f2
    exact GR.ret P
  replace hF := ite_f c9 hF
  refine GR.f c9 ?_
  refine GR.bind (P.rI (k := 0) h0 (by decide) (by decide) (by decide)) ?_
  by_cases c10 : (hi q5.2 a0 0) < (4 : Int32)
  · replace hF := ite_t c10 hF
    refine GR.t c10 ?_
    refine GR.bind (P.rI (k := 0) h0 (by decide) (by decide) (by decide)) ?_
    by_cases c11 : (hi q5.2 a0 0) ≤ 0
    · replace hF := ite_t c11 hF
      refine GR.t c11 ?_
      exact rX1_scanRule_83  h0 P hF
    replace hF := ite_f c11 hF
    refine GR.f c11 ?_
    by_cases c12 : (4 : Int32) ≤ q5.1
    · replace hF := ite_t c12 hF
      refine GR.t c12 ?_
      exact rX1_scanRule_76  P hF
    replace hF := ite_f c12 hF
    refine GR.f c12 ?_
    refine GR.bind (P.getRa (k := 2) h0 (by decide) (by decide) (by decide)) ?_
    refine GR.bind (P.dI (k := 2) (n := 0) h0 (by decide) (by decide) (by decide) (by decide) (by decide) (by decide)) ?_
    by_cases c13 : (ha q5.2 a0 2 0) = (4 : Int32)
    · replace hF := ite_t c13 hF
      refine GR.t c13 ?_
      exact rX1_scanRule_76  P hF
    replace hF := ite_f c13 hF
    refine GR.f c13 ?_
    refine GR.bind (P.getRa (k := 2) h0 (by decide) (by decide) (by decide)) ?_
    refine GR.bind (P.dI (k := 2) (n := 0) h0 (by decide) (by decide) (by decide) (by decide) (by decide) (by decide)) ?_
    by_cases c14 : (ha q5.2 a0 2 0) = (5 : Int32)
    · replace hF := ite_t c14 hF
      refine GR.t c14 ?_
      exact rX1_scanRule_76  P hF
    replace hF := ite_f c14 hF
    refine GR.f c14 ?_
    refine GR.bind (P.getRa (k := 2) h0 (by decide) (by decide) (by decide)) ?_
    refine GR.bind (P.dI (k := 2) (n := 0) h0 (by decide) (by decide) (by decide) (by decide) (by decide) (by decide)) ?_
    by_cases c15 : (ha q5.2 a0 2 0) = (6 : Int32)
    · replace hF := ite_t c15 hF
      refine GR.t c15 ?_
      exact rX1_scanRule_76  P hF
    replace hF := ite_f c15 hF
    refine GR.f c15 ?_
    exact rX1_scanRule_83  h0 P hF
  replace hF := ite_f c10 hF
  refine GR.f c10 ?_
  replace hF := ob_some hF
  obtain ⟨q16, h17, hF⟩ := hF
  obtain ⟨g18, e19, P⟩ := rX6_blame (r := q16.1) (w' := q16.2) P h17
  refine GR.bind e19 ?_
  obtain ⟨f1, f2⟩ := finW hF
  subst f1
  subst f2
  exact GR.ret P
def FX1_scan_11  : Nat → HS → Nat → Nat → Int32 → Option (Unit × HS)
  | 0, _, _, _, _ => none
  | n + 1, w, v0, v1, v2 =>
  if (4 : Int32) ≤ v2 then (some ((), w)) else
  ((FX6_isOver w v1).bind fun q2 =>
  (if q2.1 = 0 then ((FX6_take q2.2 v1 6).bind fun q7 =>
  ((FX1_scanRule q7.2 v0 v1).bind fun q11 =>
  (FX1_scan_11 n q11.2 v0 v1 (v2 + (1 : Int32))))) else
  (some ((), q2.2))))
set_option maxHeartbeats 4000000 in
set_option maxRecDepth 100000 in
theorem rX1_scan_11 {ar : Nat → Nat → Nat} {c0 : Nat → Nat} {sz : Nat} {r : Unit} {w' : HS}   : ∀ (n : Nat) (g : PH) (w : HS) (v0 : Nat) (v1 : Nat) (v2 : Int32), c0 v0 = 1 → Rel ar c0 sz g w → FX1_scan_11  n w v0 v1 v2 = some (r, w') → GR ar c0 sz r w' (fX1_scan_11  n g v0 v1 v2) := by
  intro n
  induction n with
  | zero =>
    intro g w v0 v1 v2 h0 P hF
    rw [FX1_scan_11] at hF
    cases hF
  | succ n ih =>
    intro g w v0 v1 v2 h0 P hF
    rw [FX1_scan_11] at hF
    rw [fX1_scan_11]
    by_cases c1 : (4 : Int32) ≤ v2
    · replace hF := ite_t c1 hF
      refine GR.t c1 ?_
      obtain ⟨f1, f2⟩ := finW hF
      subst f1
      subst f2
      exact GR.ret P
    replace hF := ite_f c1 hF
    refine GR.f c1 ?_
    replace hF := ob_some hF
    obtain ⟨q2, h3, hF⟩ := hF
    obtain ⟨g4, e5, P⟩ := rX6_isOver (r := q2.1) (w' := q2.2) P h3
    refine GR.bind e5 ?_
    by_cases c6 : q2.1 = 0
    · replace hF := ite_t c6 hF
      refine GR.t c6 ?_
      replace hF := ob_some hF
      obtain ⟨q7, h8, hF⟩ := hF
      obtain ⟨g9, e10, P⟩ := rX6_take (r := q7.1) (w' := q7.2) P h8
      refine GR.bind e10 ?_
      replace hF := ob_some hF
      obtain ⟨q11, h12, hF⟩ := hF
      obtain ⟨g13, e14, P⟩ := rX1_scanRule (r := q11.1) (w' := q11.2) P h12
      refine GR.bind e14 ?_
      exact ih _ _ _ _ _ h0 P hF
    replace hF := ite_f c6 hF
    refine GR.f c6 ?_
    obtain ⟨f1, f2⟩ := finW hF
    subst f1
    subst f2
    exact GR.ret P
def FX1_scan (w : HS) (a0 : Nat) (a1 : Nat) : Option (Unit × HS) :=
  okb (hc w a0 == 1) ((FX6_rewind w a1).bind fun q1 =>
  ((FX1_scanRule q1.2 a0 a1).bind fun q5 =>
  (FX1_scan_11 FUEL q5.2 a0 a1 (0 : Int32))))
set_option maxHeartbeats 4000000 in
set_option maxRecDepth 100000 in
theorem rX1_scan {ar : Nat → Nat → Nat} {c0 : Nat → Nat} {sz : Nat} {g : PH} {w w' : HS} {a0 : Nat} {a1 : Nat} {r : Unit} (P : Rel ar c0 sz g w) (hF : FX1_scan w a0 a1 = some (r, w')) : GR ar c0 sz r w' (fX1_scan g a0 a1) := by
  unfold FX1_scan at hF
  unfold fX1_scan
  replace hF := okb_some hF
  obtain ⟨h0, hF⟩ := hF
  replace h0 := P.cls h0
  refine GR.ok (P.rO h0 (by decide)) ?_
  replace hF := ob_some hF
  obtain ⟨q1, h2, hF⟩ := hF
  obtain ⟨g3, e4, P⟩ := rX6_rewind (r := q1.1) (w' := q1.2) P h2
  refine GR.bind e4 ?_
  replace hF := ob_some hF
  obtain ⟨q5, h6, hF⟩ := hF
  obtain ⟨g7, e8, P⟩ := rX1_scanRule (r := q5.1) (w' := q5.2) P h6
  refine GR.bind e8 ?_
  exact rX1_scan_11  _ _ _ _ _ _ h0 P hF
def FX1_firstRule_54 (k3 : HS → Nat → Int32 → Int32 → Int32 → Int32 → Option (Int32 × HS)) (w : HS) (v0 : Nat) (v1 : Int32) (v2 : Int32) (v3 : Int32) (v4 : Int32) : Option (Int32 × HS) :=
  k3 w v0 v1 v2 v3 (v4 + (1 : Int32))
set_option maxHeartbeats 4000000 in
set_option maxRecDepth 100000 in
theorem rX1_firstRule_54 {ar : Nat → Nat → Nat} {c0 : Nat → Nat} {sz : Nat} {r : Int32} {w' : HS} {k3 : HS → Nat → Int32 → Int32 → Int32 → Int32 → Option (Int32 × HS)} {j3 : PH → Nat → Int32 → Int32 → Int32 → Int32 → Option (Int32 × PH)} (hk3 : ∀ (g : PH) (w : HS) (v0 : Nat) (v1 : Int32) (v2 : Int32) (v3 : Int32) (v4 : Int32), c0 v0 = 1 → Rel ar c0 sz g w → k3 w v0 v1 v2 v3 v4 = some (r, w') → GR ar c0 sz r w' (j3 g v0 v1 v2 v3 v4)) {g : PH} {w : HS} {v0 : Nat} {v1 : Int32} {v2 : Int32} {v3 : Int32} {v4 : Int32} (h0 : c0 v0 = 1) (P : Rel ar c0 sz g w) (hF : FX1_firstRule_54 k3 w v0 v1 v2 v3 v4 = some (r, w')) : GR ar c0 sz r w' (fX1_firstRule_54 j3 g v0 v1 v2 v3 v4) := by
  unfold FX1_firstRule_54 at hF
  unfold fX1_firstRule_54
  exact hk3 _ _ _ _ _ _ _ h0 P hF
def FX1_firstRule_3  : Nat → HS → Nat → Int32 → Int32 → Int32 → Int32 → Option (Int32 × HS)
  | 0, _, _, _, _, _, _ => none
  | n + 1, w, v0, v1, v2, v3, v4 =>
  if (hi w v0 0) ≤ v4 then (some ((-1 : Int32), w)) else
  (if (4 : Int32) ≤ v4 then (some ((-1 : Int32), w)) else
  (okb (inb v4 4) (if (ha w v0 2 v4.toNatClampNeg) = v1 then (okb (inb v4 4) (if (ha w v0 3 v4.toNatClampNeg) = v2 then (okb (inb v4 4) (if (ha w v0 4 v4.toNatClampNeg) = v3 then (some (v4, w)) else
  (FX1_firstRule_54 (FX1_firstRule_3 n) w v0 v1 v2 v3 v4))) else
  (FX1_firstRule_54 (FX1_firstRule_3 n) w v0 v1 v2 v3 v4))) else
  (FX1_firstRule_54 (FX1_firstRule_3 n) w v0 v1 v2 v3 v4))))
set_option maxHeartbeats 4000000 in
set_option maxRecDepth 100000 in
theorem rX1_firstRule_3 {ar : Nat → Nat → Nat} {c0 : Nat → Nat} {sz : Nat} {r : Int32} {w' : HS}   : ∀ (n : Nat) (g : PH) (w : HS) (v0 : Nat) (v1 : Int32) (v2 : Int32) (v3 : Int32) (v4 : Int32), c0 v0 = 1 → Rel ar c0 sz g w → FX1_firstRule_3  n w v0 v1 v2 v3 v4 = some (r, w') → GR ar c0 sz r w' (fX1_firstRule_3  n g v0 v1 v2 v3 v4) := by
  intro n
  induction n with
  | zero =>
    intro g w v0 v1 v2 v3 v4 h0 P hF
    rw [FX1_firstRule_3] at hF
    cases hF
  | succ n ih =>
    intro g w v0 v1 v2 v3 v4 h0 P hF
    rw [FX1_firstRule_3] at hF
    rw [fX1_firstRule_3]
    refine GR.bind (P.rI (k := 0) h0 (by decide) (by decide) (by decide)) ?_
    by_cases c1 : (hi w v0 0) ≤ v4
    · replace hF := ite_t c1 hF
      refine GR.t c1 ?_
      obtain ⟨f1, f2⟩ := finW hF
      subst f1
      subst f2
      exact GR.ret P
    replace hF := ite_f c1 hF
    refine GR.f c1 ?_
    by_cases c2 : (4 : Int32) ≤ v4
    · replace hF := ite_t c2 hF
      refine GR.t c2 ?_
      obtain ⟨f1, f2⟩ := finW hF
      subst f1
      subst f2
      exact GR.ret P
    replace hF := ite_f c2 hF
    refine GR.f c2 ?_
    refine GR.bind (P.getRa (k := 2) h0 (by decide) (by decide) (by decide)) ?_
    replace hF := okb_some hF
    obtain ⟨h3, hF⟩ := hF
    refine GR.bind (P.dI (k := 2) (n := v4.toNatClampNeg) h0 (by decide) (by decide) (by decide) (by decide) h3 rfl) ?_
    by_cases c4 : (ha w v0 2 v4.toNatClampNeg) = v1
    · replace hF := ite_t c4 hF
      refine GR.t c4 ?_
      refine GR.bind (P.getRa (k := 3) h0 (by decide) (by decide) (by decide)) ?_
      replace hF := okb_some hF
      obtain ⟨h5, hF⟩ := hF
      refine GR.bind (P.dI (k := 3) (n := v4.toNatClampNeg) h0 (by decide) (by decide) (by decide) (by decide) h5 rfl) ?_
      by_cases c6 : (ha w v0 3 v4.toNatClampNeg) = v2
      · replace hF := ite_t c6 hF
        refine GR.t c6 ?_
        refine GR.bind (P.getRa (k := 4) h0 (by decide) (by decide) (by decide)) ?_
        replace hF := okb_some hF
        obtain ⟨h7, hF⟩ := hF
        refine GR.bind (P.dI (k := 4) (n := v4.toNatClampNeg) h0 (by decide) (by decide) (by decide) (by decide) h7 rfl) ?_
        by_cases c8 : (ha w v0 4 v4.toNatClampNeg) = v3
        · replace hF := ite_t c8 hF
          refine GR.t c8 ?_
          obtain ⟨f1, f2⟩ := finW hF
          subst f1
          subst f2
          exact GR.ret P
        replace hF := ite_f c8 hF
        refine GR.f c8 ?_
        exact rX1_firstRule_54 ih h0 P hF
      replace hF := ite_f c6 hF
      refine GR.f c6 ?_
      exact rX1_firstRule_54 ih h0 P hF
    replace hF := ite_f c4 hF
    refine GR.f c4 ?_
    exact rX1_firstRule_54 ih h0 P hF
def FX1_firstRule (w : HS) (a0 : Nat) (a1 : Int32) (a2 : Int32) (a3 : Int32) : Option (Int32 × HS) :=
  okb (hc w a0 == 1) (FX1_firstRule_3 FUEL w a0 a1 a2 a3 (0 : Int32))
set_option maxHeartbeats 4000000 in
set_option maxRecDepth 100000 in
theorem rX1_firstRule {ar : Nat → Nat → Nat} {c0 : Nat → Nat} {sz : Nat} {g : PH} {w w' : HS} {a0 : Nat} {a1 : Int32} {a2 : Int32} {a3 : Int32} {r : Int32} (P : Rel ar c0 sz g w) (hF : FX1_firstRule w a0 a1 a2 a3 = some (r, w')) : GR ar c0 sz r w' (fX1_firstRule g a0 a1 a2 a3) := by
  unfold FX1_firstRule at hF
  unfold fX1_firstRule
  replace hF := okb_some hF
  obtain ⟨h0, hF⟩ := hF
  replace h0 := P.cls h0
  refine GR.ok (P.rO h0 (by decide)) ?_
  exact rX1_firstRule_3  _ _ _ _ _ _ _ _ h0 P hF
def FX1_affected (w : HS) (a0 : Nat) (a1 : Int32) (a2 : Int32) : Option (Int32 × HS) :=
  okb (hc w a0 == 1) (if a2 < 0 then (some (a1, w)) else
  (if a2 < (4 : Int32) then (okb (inb a2 4) (if (ha w a0 5 a2.toNatClampNeg) = (2 : Int32) then (some ((a1 ^^^ (1 : Int32)), w)) else
  (okb (inb a2 4) (some (((a1 &&& (2 : Int32)) ||| (ha w a0 5 a2.toNatClampNeg)), w))))) else
  (some (a1, w))))
set_option maxHeartbeats 4000000 in
set_option maxRecDepth 100000 in
theorem rX1_affected {ar : Nat → Nat → Nat} {c0 : Nat → Nat} {sz : Nat} {g : PH} {w w' : HS} {a0 : Nat} {a1 : Int32} {a2 : Int32} {r : Int32} (P : Rel ar c0 sz g w) (hF : FX1_affected w a0 a1 a2 = some (r, w')) : GR ar c0 sz r w' (fX1_affected g a0 a1 a2) := by
  unfold FX1_affected at hF
  unfold fX1_affected
  replace hF := okb_some hF
  obtain ⟨h0, hF⟩ := hF
  replace h0 := P.cls h0
  refine GR.ok (P.rO h0 (by decide)) ?_
  by_cases c1 : a2 < 0
  · replace hF := ite_t c1 hF
    refine GR.t c1 ?_
    obtain ⟨f1, f2⟩ := finW hF
    subst f1
    subst f2
    exact GR.ret P
  replace hF := ite_f c1 hF
  refine GR.f c1 ?_
  by_cases c2 : a2 < (4 : Int32)
  · replace hF := ite_t c2 hF
    refine GR.t c2 ?_
    refine GR.bind (P.getRa (k := 5) h0 (by decide) (by decide) (by decide)) ?_
    replace hF := okb_some hF
    obtain ⟨h3, hF⟩ := hF
    refine GR.bind (P.dI (k := 5) (n := a2.toNatClampNeg) h0 (by decide) (by decide) (by decide) (by decide) h3 rfl) ?_
    by_cases c4 : (ha w a0 5 a2.toNatClampNeg) = (2 : Int32)
    · replace hF := ite_t c4 hF
      refine GR.t c4 ?_
      obtain ⟨f1, f2⟩ := finW hF
      subst f1
      subst f2
      exact GR.ret P
    replace hF := ite_f c4 hF
    refine GR.f c4 ?_
    refine GR.bind (P.getRa (k := 5) h0 (by decide) (by decide) (by decide)) ?_
    replace hF := okb_some hF
    obtain ⟨h5, hF⟩ := hF
    refine GR.bind (P.dI (k := 5) (n := a2.toNatClampNeg) h0 (by decide) (by decide) (by decide) (by decide) h5 rfl) ?_
    obtain ⟨f1, f2⟩ := finW hF
    subst f1
    subst f2
    exact GR.ret P
  replace hF := ite_f c2 hF
  refine GR.f c2 ?_
  obtain ⟨f1, f2⟩ := finW hF
  subst f1
  subst f2
  exact GR.ret P
def FX1_settle_57 (k15 : HS → Nat → Int32 → Int32 → Option (Int32 × HS)) (w : HS) (v0 : Nat) (v2 : Int32) (v3 : Int32) : Option (Int32 × HS) :=
  k15 w v0 v2 (v3 + (1 : Int32))
set_option maxHeartbeats 4000000 in
set_option maxRecDepth 100000 in
theorem rX1_settle_57 {ar : Nat → Nat → Nat} {c0 : Nat → Nat} {sz : Nat} {r : Int32} {w' : HS} {k15 : HS → Nat → Int32 → Int32 → Option (Int32 × HS)} {j15 : PH → Nat → Int32 → Int32 → Option (Int32 × PH)} (hk15 : ∀ (g : PH) (w : HS) (v0 : Nat) (v2 : Int32) (v3 : Int32), c0 v0 = 1 → Rel ar c0 sz g w → k15 w v0 v2 v3 = some (r, w') → GR ar c0 sz r w' (j15 g v0 v2 v3)) {g : PH} {w : HS} {v0 : Nat} {v2 : Int32} {v3 : Int32} (h0 : c0 v0 = 1) (P : Rel ar c0 sz g w) (hF : FX1_settle_57 k15 w v0 v2 v3 = some (r, w')) : GR ar c0 sz r w' (fX1_settle_57 j15 g v0 v2 v3) := by
  unfold FX1_settle_57 at hF
  unfold fX1_settle_57
  exact hk15 _ _ _ _ _ h0 P hF
def FX1_settle_15  : Nat → HS → Nat → Int32 → Int32 → Option (Int32 × HS)
  | 0, _, _, _, _ => none
  | n + 1, w, v0, v2, v3 =>
  if (hi w v0 0) ≤ v3 then (some (v2, w)) else
  (if (4 : Int32) ≤ v3 then (some (v2, w)) else
  (okb (inb v3 4) (if (ha w v0 2 v3.toNatClampNeg) = (2 : Int32) then (okb (inb v3 4) (if (ha w v0 3 v3.toNatClampNeg) = (v2 >>> ((1 : Int32) &&& 31)) then ((FX1_affected w v0 v2 v3).bind fun q7 =>
  (FX1_settle_57 (FX1_settle_15 n) q7.2 v0 q7.1 v3)) else
  (FX1_settle_57 (FX1_settle_15 n) w v0 v2 v3))) else
  (FX1_settle_57 (FX1_settle_15 n) w v0 v2 v3))))
set_option maxHeartbeats 4000000 in
set_option maxRecDepth 100000 in
theorem rX1_settle_15 {ar : Nat → Nat → Nat} {c0 : Nat → Nat} {sz : Nat} {r : Int32} {w' : HS}   : ∀ (n : Nat) (g : PH) (w : HS) (v0 : Nat) (v2 : Int32) (v3 : Int32), c0 v0 = 1 → Rel ar c0 sz g w → FX1_settle_15  n w v0 v2 v3 = some (r, w') → GR ar c0 sz r w' (fX1_settle_15  n g v0 v2 v3) := by
  intro n
  induction n with
  | zero =>
    intro g w v0 v2 v3 h0 P hF
    rw [FX1_settle_15] at hF
    cases hF
  | succ n ih =>
    intro g w v0 v2 v3 h0 P hF
    rw [FX1_settle_15] at hF
    rw [fX1_settle_15]
    refine GR.bind (P.rI (k := 0) h0 (by decide) (by decide) (by decide)) ?_
    by_cases c1 : (hi w v0 0) ≤ v3
    · replace hF := ite_t c1 hF
      refine GR.t c1 ?_
      obtain ⟨f1, f2⟩ := finW hF
      subst f1
      subst f2
      exact GR.ret P
    replace hF := ite_f c1 hF
    refine GR.f c1 ?_
    by_cases c2 : (4 : Int32) ≤ v3
    · replace hF := ite_t c2 hF
      refine GR.t c2 ?_
      obtain ⟨f1, f2⟩ := finW hF
      subst f1
      subst f2
      exact GR.ret P
    replace hF := ite_f c2 hF
    refine GR.f c2 ?_
    refine GR.bind (P.getRa (k := 2) h0 (by decide) (by decide) (by decide)) ?_
    replace hF := okb_some hF
    obtain ⟨h3, hF⟩ := hF
    refine GR.bind (P.dI (k := 2) (n := v3.toNatClampNeg) h0 (by decide) (by decide) (by decide) (by decide) h3 rfl) ?_
    by_cases c4 : (ha w v0 2 v3.toNatClampNeg) = (2 : Int32)
    · replace hF := ite_t c4 hF
      refine GR.t c4 ?_
      refine GR.bind (P.getRa (k := 3) h0 (by decide) (by decide) (by decide)) ?_
      replace hF := okb_some hF
      obtain ⟨h5, hF⟩ := hF
      refine GR.bind (P.dI (k := 3) (n := v3.toNatClampNeg) h0 (by decide) (by decide) (by decide) (by decide) h5 rfl) ?_
      by_cases c6 : (ha w v0 3 v3.toNatClampNeg) = (v2 >>> ((1 : Int32) &&& 31))
      · replace hF := ite_t c6 hF
        refine GR.t c6 ?_
        replace hF := ob_some hF
        obtain ⟨q7, h8, hF⟩ := hF
        obtain ⟨g9, e10, P⟩ := rX1_affected (r := q7.1) (w' := q7.2) P h8
        refine GR.bind e10 ?_
        exact rX1_settle_57 ih h0 P hF
      replace hF := ite_f c6 hF
      refine GR.f c6 ?_
      exact rX1_settle_57 ih h0 P hF
    replace hF := ite_f c4 hF
    refine GR.f c4 ?_
    exact rX1_settle_57 ih h0 P hF
def FX1_settle (w : HS) (a0 : Nat) (a1 : Int32) : Option (Int32 × HS) :=
  okb (hc w a0 == 1) ((FX1_firstRule w a0 (3 : Int32) (0 : Int32) (0 : Int32)).bind fun q1 =>
  ((FX1_affected q1.2 a0 a1 q1.1).bind fun q5 =>
  (FX1_settle_15 FUEL q5.2 a0 q5.1 (0 : Int32))))
set_option maxHeartbeats 4000000 in
set_option maxRecDepth 100000 in
theorem rX1_settle {ar : Nat → Nat → Nat} {c0 : Nat → Nat} {sz : Nat} {g : PH} {w w' : HS} {a0 : Nat} {a1 : Int32} {r : Int32} (P : Rel ar c0 sz g w) (hF : FX1_settle w a0 a1 = some (r, w')) : GR ar c0 sz r w' (fX1_settle g a0 a1) := by
  unfold FX1_settle at hF
  unfold fX1_settle
  replace hF := okb_some hF
  obtain ⟨h0, hF⟩ := hF
  replace h0 := P.cls h0
  refine GR.ok (P.rO h0 (by decide)) ?_
  replace hF := ob_some hF
  obtain ⟨q1, h2, hF⟩ := hF
  obtain ⟨g3, e4, P⟩ := rX1_firstRule (r := q1.1) (w' := q1.2) P h2
  refine GR.bind e4 ?_
  replace hF := ob_some hF
  obtain ⟨q5, h6, hF⟩ := hF
  obtain ⟨g7, e8, P⟩ := rX1_affected (r := q5.1) (w' := q5.2) P h6
  refine GR.bind e8 ?_
  exact rX1_settle_15  _ _ _ _ _ _ h0 P hF
def FX1_readOne_46  (w : HS) (v0 : Nat) (v2 : Int32) (v4 : Int32) (s0 : Int32) : Option (Int32 × HS) :=
  (FX1_affected w v0 v2 v4).bind fun q1 =>
  ((FX1_settle q1.2 v0 q1.1).bind fun q5 =>
  (some ((q5.1 ||| (s0 <<< ((2 : Int32) &&& 31))), q5.2)))
set_option maxHeartbeats 4000000 in
set_option maxRecDepth 100000 in
theorem rX1_readOne_46 {ar : Nat → Nat → Nat} {c0 : Nat → Nat} {sz : Nat} {r : Int32} {w' : HS}   {g : PH} {w : HS} {v0 : Nat} {v2 : Int32} {v4 : Int32} {s0 : Int32} (h0 : c0 v0 = 1) (P : Rel ar c0 sz g w) (hF : FX1_readOne_46  w v0 v2 v4 s0 = some (r, w')) : GR ar c0 sz r w' (fX1_readOne_46  g v0 v2 v4 s0) := by
  unfold FX1_readOne_46 at hF
  unfold fX1_readOne_46
  replace hF := ob_some hF
  obtain ⟨q1, h2, hF⟩ := hF
  obtain ⟨g3, e4, P⟩ := rX1_affected (r := q1.1) (w' := q1.2) P h2
  refine GR.bind e4 ?_
  replace hF := ob_some hF
  obtain ⟨q5, h6, hF⟩ := hF
  obtain ⟨g7, e8, P⟩ := rX1_settle (r := q5.1) (w' := q5.2) P h6
  refine GR.bind e8 ?_
  obtain ⟨f1, f2⟩ := finW hF
  subst f1
  subst f2
  exact GR.ret P
def FX1_readOne_45  (w : HS) (v0 : Nat) (v2 : Int32) (v3 : Int32) (v4 : Int32) : Option (Int32 × HS) :=
  FX1_readOne_46 w v0 v2 v4 v3
set_option maxHeartbeats 4000000 in
set_option maxRecDepth 100000 in
theorem rX1_readOne_45 {ar : Nat → Nat → Nat} {c0 : Nat → Nat} {sz : Nat} {r : Int32} {w' : HS}   {g : PH} {w : HS} {v0 : Nat} {v2 : Int32} {v3 : Int32} {v4 : Int32} (h0 : c0 v0 = 1) (P : Rel ar c0 sz g w) (hF : FX1_readOne_45  w v0 v2 v3 v4 = some (r, w')) : GR ar c0 sz r w' (fX1_readOne_45  g v0 v2 v3 v4) := by
  unfold FX1_readOne_45 at hF
  unfold fX1_readOne_45
  exact rX1_readOne_46  h0 P hF
def FX1_readOne_18  (w : HS) (v0 : Nat) (v1 : Int32) (v2 : Int32) (v3 : Int32) (s0 : Int32) (s1 : Nat) : Option (Int32 × HS) :=
  (FX1_firstRule w s1 s0 v3 (0 : Int32)).bind fun q1 =>
  (if q1.1 = (-1 : Int32) then (FX1_readOne_45 q1.2 v0 v2 v3 q1.1) else
  (if v1 = 0 then (okb (inb q1.1 4) (FX1_readOne_46 q1.2 v0 v2 q1.1 (ha q1.2 v0 6 q1.1.toNatClampNeg))) else
  (FX1_readOne_45 q1.2 v0 v2 v3 q1.1)))
set_option maxHeartbeats 4000000 in
set_option maxRecDepth 100000 in
theorem rX1_readOne_18 {ar : Nat → Nat → Nat} {c0 : Nat → Nat} {sz : Nat} {r : Int32} {w' : HS}   {g : PH} {w : HS} {v0 : Nat} {v1 : Int32} {v2 : Int32} {v3 : Int32} {s0 : Int32} {s1 : Nat} (h0 : c0 v0 = 1) (P : Rel ar c0 sz g w) (hF : FX1_readOne_18  w v0 v1 v2 v3 s0 s1 = some (r, w')) : GR ar c0 sz r w' (fX1_readOne_18  g v0 v1 v2 v3 s0 s1) := by
  unfold FX1_readOne_18 at hF
  unfold fX1_readOne_18
  replace hF := ob_some hF
  obtain ⟨q1, h2, hF⟩ := hF
  obtain ⟨g3, e4, P⟩ := rX1_firstRule (r := q1.1) (w' := q1.2) P h2
  refine GR.bind e4 ?_
  by_cases c5 : q1.1 = (-1 : Int32)
  · replace hF := ite_t c5 hF
    refine GR.t c5 ?_
    exact rX1_readOne_45  h0 P hF
  replace hF := ite_f c5 hF
  refine GR.f c5 ?_
  by_cases c6 : v1 = 0
  · replace hF := ite_t c6 hF
    refine GR.t c6 ?_
    refine GR.bind (P.getRa (k := 6) h0 (by decide) (by decide) (by decide)) ?_
    replace hF := okb_some hF
    obtain ⟨h7, hF⟩ := hF
    refine GR.bind (P.dI (k := 6) (n := q1.1.toNatClampNeg) h0 (by decide) (by decide) (by decide) (by decide) h7 rfl) ?_
    exact rX1_readOne_46  h0 P hF
  replace hF := ite_f c6 hF
  refine GR.f c6 ?_
  exact rX1_readOne_45  h0 P hF
def FX1_readOne (w : HS) (a0 : Nat) (a1 : Int32) (a2 : Int32) : Option (Int32 × HS) :=
  okb (hc w a0 == 1) (if a1 = 0 then (FX1_readOne_18 w a0 a1 a2 ((a2 >>> (a1 &&& 31)) &&& (1 : Int32)) (7 : Int32) a0) else
  (FX1_readOne_18 w a0 a1 a2 ((a2 >>> (a1 &&& 31)) &&& (1 : Int32)) (8 : Int32) a0))
set_option maxHeartbeats 4000000 in
set_option maxRecDepth 100000 in
theorem rX1_readOne {ar : Nat → Nat → Nat} {c0 : Nat → Nat} {sz : Nat} {g : PH} {w w' : HS} {a0 : Nat} {a1 : Int32} {a2 : Int32} {r : Int32} (P : Rel ar c0 sz g w) (hF : FX1_readOne w a0 a1 a2 = some (r, w')) : GR ar c0 sz r w' (fX1_readOne g a0 a1 a2) := by
  unfold FX1_readOne at hF
  unfold fX1_readOne
  replace hF := okb_some hF
  obtain ⟨h0, hF⟩ := hF
  replace h0 := P.cls h0
  refine GR.ok (P.rO h0 (by decide)) ?_
  by_cases c1 : a1 = 0
  · replace hF := ite_t c1 hF
    refine GR.t c1 ?_
    exact rX1_readOne_18  h0 P hF
  replace hF := ite_f c1 hF
  refine GR.f c1 ?_
  exact rX1_readOne_18  h0 P hF
def FX1_writeOne_30  (w : HS) (v0 : Nat) (v2 : Int32) (v4 : Int32) (v5 : Int32) (s0 : Int32) (s1 : Nat) : Option (Int32 × HS) :=
  (FX1_firstRule w s1 s0 v4 v2).bind fun q1 =>
  ((FX1_affected q1.2 v0 v5 q1.1).bind fun q5 =>
  ((FX1_settle q5.2 v0 q5.1).bind fun q9 =>
  (some (q9.1, q9.2))))
set_option maxHeartbeats 4000000 in
set_option maxRecDepth 100000 in
theorem rX1_writeOne_30 {ar : Nat → Nat → Nat} {c0 : Nat → Nat} {sz : Nat} {r : Int32} {w' : HS}   {g : PH} {w : HS} {v0 : Nat} {v2 : Int32} {v4 : Int32} {v5 : Int32} {s0 : Int32} {s1 : Nat} (h0 : c0 v0 = 1) (P : Rel ar c0 sz g w) (hF : FX1_writeOne_30  w v0 v2 v4 v5 s0 s1 = some (r, w')) : GR ar c0 sz r w' (fX1_writeOne_30  g v0 v2 v4 v5 s0 s1) := by
  unfold FX1_writeOne_30 at hF
  unfold fX1_writeOne_30
  replace hF := ob_some hF
  obtain ⟨q1, h2, hF⟩ := hF
  obtain ⟨g3, e4, P⟩ := rX1_firstRule (r := q1.1) (w' := q1.2) P h2
  refine GR.bind e4 ?_
  replace hF := ob_some hF
  obtain ⟨q5, h6, hF⟩ := hF
  obtain ⟨g7, e8, P⟩ := rX1_affected (r := q5.1) (w' := q5.2) P h6
  refine GR.bind e8 ?_
  replace hF := ob_some hF
  obtain ⟨q9, h10, hF⟩ := hF
  obtain ⟨g11, e12, P⟩ := rX1_settle (r := q9.1) (w' := q9.2) P h10
  refine GR.bind e12 ?_
  obtain ⟨f1, f2⟩ := finW hF
  subst f1
  subst f2
  exact GR.ret P
def FX1_writeOne (w : HS) (a0 : Nat) (a1 : Int32) (a2 : Int32) (a3 : Int32) : Option (Int32 × HS) :=
  okb (hc w a0 == 1) (if a1 = 0 then (FX1_writeOne_30 w a0 a2 ((a3 >>> (a1 &&& 31)) &&& (1 : Int32)) ((a3 &&& (((1 : Int32) <<< (a1 &&& 31)) ^^^ (-1 : Int32))) ||| (a2 <<< (a1 &&& 31))) (0 : Int32) a0) else
  (FX1_writeOne_30 w a0 a2 ((a3 >>> (a1 &&& 31)) &&& (1 : Int32)) ((a3 &&& (((1 : Int32) <<< (a1 &&& 31)) ^^^ (-1 : Int32))) ||| (a2 <<< (a1 &&& 31))) (1 : Int32) a0))
set_option maxHeartbeats 4000000 in
set_option maxRecDepth 100000 in
theorem rX1_writeOne {ar : Nat → Nat → Nat} {c0 : Nat → Nat} {sz : Nat} {g : PH} {w w' : HS} {a0 : Nat} {a1 : Int32} {a2 : Int32} {a3 : Int32} {r : Int32} (P : Rel ar c0 sz g w) (hF : FX1_writeOne w a0 a1 a2 a3 = some (r, w')) : GR ar c0 sz r w' (fX1_writeOne g a0 a1 a2 a3) := by
  unfold FX1_writeOne at hF
  unfold fX1_writeOne
  replace hF := okb_some hF
  obtain ⟨h0, hF⟩ := hF
  replace h0 := P.cls h0
  refine GR.ok (P.rO h0 (by decide)) ?_
  by_cases c1 : a1 = 0
  · replace hF := ite_t c1 hF
    refine GR.t c1 ?_
    exact rX1_writeOne_30  h0 P hF
  replace hF := ite_f c1 hF
  refine GR.f c1 ?_
  exact rX1_writeOne_30  h0 P hF
def FX1_operateOne (w : HS) (a0 : Nat) (a1 : Int32) (a2 : Int32) (a3 : Int32) : Option (Int32 × HS) :=
  okb (hc w a0 == 1) (if a2 = 0 then ((FX1_readOne w a0 a1 a3).bind fun q2 =>
  (some (q2.1, q2.2))) else
  ((FX1_writeOne w a0 a1 (a2 - (1 : Int32)) a3).bind fun q6 =>
  (some (q6.1, q6.2))))
set_option maxHeartbeats 4000000 in
set_option maxRecDepth 100000 in
theorem rX1_operateOne {ar : Nat → Nat → Nat} {c0 : Nat → Nat} {sz : Nat} {g : PH} {w w' : HS} {a0 : Nat} {a1 : Int32} {a2 : Int32} {a3 : Int32} {r : Int32} (P : Rel ar c0 sz g w) (hF : FX1_operateOne w a0 a1 a2 a3 = some (r, w')) : GR ar c0 sz r w' (fX1_operateOne g a0 a1 a2 a3) := by
  unfold FX1_operateOne at hF
  unfold fX1_operateOne
  replace hF := okb_some hF
  obtain ⟨h0, hF⟩ := hF
  replace h0 := P.cls h0
  refine GR.ok (P.rO h0 (by decide)) ?_
  by_cases c1 : a2 = 0
  · replace hF := ite_t c1 hF
    refine GR.t c1 ?_
    replace hF := ob_some hF
    obtain ⟨q2, h3, hF⟩ := hF
    obtain ⟨g4, e5, P⟩ := rX1_readOne (r := q2.1) (w' := q2.2) P h3
    refine GR.bind e5 ?_
    obtain ⟨f1, f2⟩ := finW hF
    subst f1
    subst f2
    exact GR.ret P
  replace hF := ite_f c1 hF
  refine GR.f c1 ?_
  replace hF := ob_some hF
  obtain ⟨q6, h7, hF⟩ := hF
  obtain ⟨g8, e9, P⟩ := rX1_writeOne (r := q6.1) (w' := q6.2) P h7
  refine GR.bind e9 ?_
  obtain ⟨f1, f2⟩ := finW hF
  subst f1
  subst f2
  exact GR.ret P
def FX1_operate_131  (w : HS) (v0 : Nat) (v1 : Int32) (v2 : Int32) (v3 : Int32) : Option (Int32 × HS) :=
  (FX1_operateOne w v0 v1 v2 v3).bind fun q1 =>
  (some (q1.1, q1.2))
set_option maxHeartbeats 4000000 in
set_option maxRecDepth 100000 in
theorem rX1_operate_131 {ar : Nat → Nat → Nat} {c0 : Nat → Nat} {sz : Nat} {r : Int32} {w' : HS}   {g : PH} {w : HS} {v0 : Nat} {v1 : Int32} {v2 : Int32} {v3 : Int32} (h0 : c0 v0 = 1) (P : Rel ar c0 sz g w) (hF : FX1_operate_131  w v0 v1 v2 v3 = some (r, w')) : GR ar c0 sz r w' (fX1_operate_131  g v0 v1 v2 v3) := by
  unfold FX1_operate_131 at hF
  unfold fX1_operate_131
  replace hF := ob_some hF
  obtain ⟨q1, h2, hF⟩ := hF
  obtain ⟨g3, e4, P⟩ := rX1_operateOne (r := q1.1) (w' := q1.2) P h2
  refine GR.bind e4 ?_
  obtain ⟨f1, f2⟩ := finW hF
  subst f1
  subst f2
  exact GR.ret P
def FX1_operate_33  (w : HS) (v0 : Nat) (v1 : Int32) (v2 : Int32) (v3 : Int32) : Option (Int32 × HS) :=
  if (ha w v0 2 0) = (5 : Int32) then ((FX1_operateOne w v0 (0 : Int32) v2 v3).bind fun q2 =>
  (some (q2.1, q2.2))) else
  (if (ha w v0 2 0) = (6 : Int32) then (if v1 = (1 : Int32) then ((FX1_operateOne w v0 (1 : Int32) v2 v3).bind fun q8 =>
  ((FX1_operateOne q8.2 v0 (0 : Int32) v2 (q8.1 &&& (3 : Int32))).bind fun q12 =>
  (if (ha q12.2 v0 5 0) = (1 : Int32) then (some (((q12.1 &&& (3 : Int32)) ||| (((q8.1 ||| q12.1) >>> ((2 : Int32) &&& 31)) <<< ((2 : Int32) &&& 31))), q12.2)) else
  (some (((q12.1 &&& (3 : Int32)) ||| (((q8.1 &&& q12.1) >>> ((2 : Int32) &&& 31)) <<< ((2 : Int32) &&& 31))), q12.2))))) else
  (FX1_operate_131 w v0 v1 v2 v3)) else
  (FX1_operate_131 w v0 v1 v2 v3))
set_option maxHeartbeats 4000000 in
set_option maxRecDepth 100000 in
theorem rX1_operate_33 {ar : Nat → Nat → Nat} {c0 : Nat → Nat} {sz : Nat} {r : Int32} {w' : HS}   {g : PH} {w : HS} {v0 : Nat} {v1 : Int32} {v2 : Int32} {v3 : Int32} (h0 : c0 v0 = 1) (P : Rel ar c0 sz g w) (hF : FX1_operate_33  w v0 v1 v2 v3 = some (r, w')) : GR ar c0 sz r w' (fX1_operate_33  g v0 v1 v2 v3) := by
  unfold FX1_operate_33 at hF
  unfold fX1_operate_33
  refine GR.bind (P.getRa (k := 2) h0 (by decide) (by decide) (by decide)) ?_
  refine GR.bind (P.dI (k := 2) (n := 0) h0 (by decide) (by decide) (by decide) (by decide) (by decide) (by decide)) ?_
  by_cases c1 : (ha w v0 2 0) = (5 : Int32)
  · replace hF := ite_t c1 hF
    refine GR.t c1 ?_
    replace hF := ob_some hF
    obtain ⟨q2, h3, hF⟩ := hF
    obtain ⟨g4, e5, P⟩ := rX1_operateOne (r := q2.1) (w' := q2.2) P h3
    refine GR.bind e5 ?_
    obtain ⟨f1, f2⟩ := finW hF
    subst f1
    subst f2
    exact GR.ret P
  replace hF := ite_f c1 hF
  refine GR.f c1 ?_
  refine GR.bind (P.getRa (k := 2) h0 (by decide) (by decide) (by decide)) ?_
  refine GR.bind (P.dI (k := 2) (n := 0) h0 (by decide) (by decide) (by decide) (by decide) (by decide) (by decide)) ?_
  by_cases c6 : (ha w v0 2 0) = (6 : Int32)
  · replace hF := ite_t c6 hF
    refine GR.t c6 ?_
    by_cases c7 : v1 = (1 : Int32)
    · replace hF := ite_t c7 hF
      refine GR.t c7 ?_
      replace hF := ob_some hF
      obtain ⟨q8, h9, hF⟩ := hF
      obtain ⟨g10, e11, P⟩ := rX1_operateOne (r := q8.1) (w' := q8.2) P h9
      refine GR.bind e11 ?_
      replace hF := ob_some hF
      obtain ⟨q12, h13, hF⟩ := hF
      obtain ⟨g14, e15, P⟩ := rX1_operateOne (r := q12.1) (w' := q12.2) P h13
      refine GR.bind e15 ?_
      refine GR.bind (P.getRa (k := 5) h0 (by decide) (by decide) (by decide)) ?_
      refine GR.bind (P.dI (k := 5) (n := 0) h0 (by decide) (by decide) (by decide) (by decide) (by decide) (by decide)) ?_
      by_cases c16 : (ha q12.2 v0 5 0) = (1 : Int32)
      · replace hF := ite_t c16 hF
        refine GR.t c16 ?_
        obtain ⟨f1, f2⟩ := finW hF
        subst f1
        subst f2
        exact GR.ret P
      replace hF := ite_f c16 hF
      refine GR.f c16 ?_
      obtain ⟨f1, f2⟩ := finW hF
      subst f1
      subst f2
      exact GR.ret P
    replace hF := ite_f c7 hF
    refine GR.f c7 ?_
    exact rX1_operate_131  h0 P hF
  replace hF := ite_f c6 hF
  refine GR.f c6 ?_
  exact rX1_operate_131  h0 P hF
def FX1_operate (w : HS) (a0 : Nat) (a1 : Int32) (a2 : Int32) (a3 : Int32) : Option (Int32 × HS) :=
  okb (hc w a0 == 1) (if (ha w a0 2 0) = (4 : Int32) then (if a1 = 0 then (if a2 = 0 then (some ((a3 ||| ((ha w a0 5 0) <<< ((2 : Int32) &&& 31))), w)) else
  (some (a3, w))) else
  (FX1_operate_33 w a0 a1 a2 a3)) else
  (FX1_operate_33 w a0 a1 a2 a3))
set_option maxHeartbeats 4000000 in
set_option maxRecDepth 100000 in
theorem rX1_operate {ar : Nat → Nat → Nat} {c0 : Nat → Nat} {sz : Nat} {g : PH} {w w' : HS} {a0 : Nat} {a1 : Int32} {a2 : Int32} {a3 : Int32} {r : Int32} (P : Rel ar c0 sz g w) (hF : FX1_operate w a0 a1 a2 a3 = some (r, w')) : GR ar c0 sz r w' (fX1_operate g a0 a1 a2 a3) := by
  unfold FX1_operate at hF
  unfold fX1_operate
  replace hF := okb_some hF
  obtain ⟨h0, hF⟩ := hF
  replace h0 := P.cls h0
  refine GR.ok (P.rO h0 (by decide)) ?_
  refine GR.bind (P.getRa (k := 2) h0 (by decide) (by decide) (by decide)) ?_
  refine GR.bind (P.dI (k := 2) (n := 0) h0 (by decide) (by decide) (by decide) (by decide) (by decide) (by decide)) ?_
  by_cases c1 : (ha w a0 2 0) = (4 : Int32)
  · replace hF := ite_t c1 hF
    refine GR.t c1 ?_
    by_cases c2 : a1 = 0
    · replace hF := ite_t c2 hF
      refine GR.t c2 ?_
      by_cases c3 : a2 = 0
      · replace hF := ite_t c3 hF
        refine GR.t c3 ?_
        refine GR.bind (P.getRa (k := 5) h0 (by decide) (by decide) (by decide)) ?_
        refine GR.bind (P.dI (k := 5) (n := 0) h0 (by decide) (by decide) (by decide) (by decide) (by decide) (by decide)) ?_
        obtain ⟨f1, f2⟩ := finW hF
        subst f1
        subst f2
        exact GR.ret P
      replace hF := ite_f c3 hF
      refine GR.f c3 ?_
      obtain ⟨f1, f2⟩ := finW hF
      subst f1
      subst f2
      exact GR.ret P
    replace hF := ite_f c2 hF
    refine GR.f c2 ?_
    exact rX1_operate_33  h0 P hF
  replace hF := ite_f c1 hF
  refine GR.f c1 ?_
  exact rX1_operate_33  h0 P hF
def FX1_prepare_20 (k2 : HS → Nat → Int32 → Option (Unit × HS)) : Nat → HS → Nat → Int32 → Int32 → Option (Unit × HS)
  | 0, _, _, _, _ => none
  | n + 1, w, v0, v1, v2 =>
  if (3 : Int32) ≤ v2 then (k2 w v0 (v1 + (1 : Int32))) else
  ((FX1_operate w v0 (0 : Int32) v2 v1).bind fun q2 =>
  (okb (inb ((v2 * (4 : Int32)) + v1) 24) (bnd (setA q2.2 v0 7 ((v2 * (4 : Int32)) + v1).toNatClampNeg q2.1) fun w9 =>
  ((FX1_operate w9 v0 (1 : Int32) v2 v1).bind fun q11 =>
  (okb (inb (((12 : Int32) + (v2 * (4 : Int32))) + v1) 24) (bnd (setA q11.2 v0 7 (((12 : Int32) + (v2 * (4 : Int32))) + v1).toNatClampNeg q11.1) fun w18 =>
  (FX1_prepare_20 k2 n w18 v0 v1 (v2 + (1 : Int32)))))))))
set_option maxHeartbeats 4000000 in
set_option maxRecDepth 100000 in
theorem rX1_prepare_20 {ar : Nat → Nat → Nat} {c0 : Nat → Nat} {sz : Nat} {r : Unit} {w' : HS} {k2 : HS → Nat → Int32 → Option (Unit × HS)} {j2 : PH → Nat → Int32 → Option (Unit × PH)} (hk2 : ∀ (g : PH) (w : HS) (v0 : Nat) (v1 : Int32), c0 v0 = 1 → Rel ar c0 sz g w → k2 w v0 v1 = some (r, w') → GR ar c0 sz r w' (j2 g v0 v1)) : ∀ (n : Nat) (g : PH) (w : HS) (v0 : Nat) (v1 : Int32) (v2 : Int32), c0 v0 = 1 → Rel ar c0 sz g w → FX1_prepare_20 k2 n w v0 v1 v2 = some (r, w') → GR ar c0 sz r w' (fX1_prepare_20 j2 n g v0 v1 v2) := by
  intro n
  induction n with
  | zero =>
    intro g w v0 v1 v2 h0 P hF
    rw [FX1_prepare_20] at hF
    cases hF
  | succ n ih =>
    intro g w v0 v1 v2 h0 P hF
    rw [FX1_prepare_20] at hF
    rw [fX1_prepare_20]
    by_cases c1 : (3 : Int32) ≤ v2
    · replace hF := ite_t c1 hF
      refine GR.t c1 ?_
      exact hk2 _ _ _ _ h0 P hF
    replace hF := ite_f c1 hF
    refine GR.f c1 ?_
    refine GR.bind (P.getRa (k := 7) h0 (by decide) (by decide) (by decide)) ?_
    replace hF := ob_some hF
    obtain ⟨q2, h3, hF⟩ := hF
    obtain ⟨g4, e5, P⟩ := rX1_operate (r := q2.1) (w' := q2.2) P h3
    refine GR.bind e5 ?_
    replace hF := okb_some hF
    obtain ⟨h6, hF⟩ := hF
    replace hF := bnd_e hF
    obtain ⟨w9, e10, hF⟩ := hF
    obtain ⟨g7, e8, P⟩ := P.sI (k := 7) (kd := 0) (j := ((v2 * (4 : Int32)) + v1)) h0 (by decide) (by decide) (by decide) (by decide) h6 rfl e10
    refine GR.bind e8 ?_
    refine GR.bind (P.getRa (k := 7) h0 (by decide) (by decide) (by decide)) ?_
    replace hF := ob_some hF
    obtain ⟨q11, h12, hF⟩ := hF
    obtain ⟨g13, e14, P⟩ := rX1_operate (r := q11.1) (w' := q11.2) P h12
    refine GR.bind e14 ?_
    replace hF := okb_some hF
    obtain ⟨h15, hF⟩ := hF
    replace hF := bnd_e hF
    obtain ⟨w18, e19, hF⟩ := hF
    obtain ⟨g16, e17, P⟩ := P.sI (k := 7) (kd := 0) (j := (((12 : Int32) + (v2 * (4 : Int32))) + v1)) h0 (by decide) (by decide) (by decide) (by decide) h15 rfl e19
    refine GR.bind e17 ?_
    exact ih _ _ _ _ _ h0 P hF
def FX1_prepare_2  : Nat → HS → Nat → Int32 → Option (Unit × HS)
  | 0, _, _, _ => none
  | n + 1, w, v0, v1 =>
  if (4 : Int32) ≤ v1 then (some ((), w)) else
  ((FX1_settle w v0 v1).bind fun q2 =>
  (okb (inb v1 4) (bnd (setA q2.2 v0 8 v1.toNatClampNeg q2.1) fun w9 =>
  (FX1_prepare_20 (FX1_prepare_2 n) FUEL w9 v0 v1 (0 : Int32)))))
set_option maxHeartbeats 4000000 in
set_option maxRecDepth 100000 in
theorem rX1_prepare_2 {ar : Nat → Nat → Nat} {c0 : Nat → Nat} {sz : Nat} {r : Unit} {w' : HS}   : ∀ (n : Nat) (g : PH) (w : HS) (v0 : Nat) (v1 : Int32), c0 v0 = 1 → Rel ar c0 sz g w → FX1_prepare_2  n w v0 v1 = some (r, w') → GR ar c0 sz r w' (fX1_prepare_2  n g v0 v1) := by
  intro n
  induction n with
  | zero =>
    intro g w v0 v1 h0 P hF
    rw [FX1_prepare_2] at hF
    cases hF
  | succ n ih =>
    intro g w v0 v1 h0 P hF
    rw [FX1_prepare_2] at hF
    rw [fX1_prepare_2]
    by_cases c1 : (4 : Int32) ≤ v1
    · replace hF := ite_t c1 hF
      refine GR.t c1 ?_
      obtain ⟨f1, f2⟩ := finW hF
      subst f1
      subst f2
      exact GR.ret P
    replace hF := ite_f c1 hF
    refine GR.f c1 ?_
    refine GR.bind (P.getRa (k := 8) h0 (by decide) (by decide) (by decide)) ?_
    replace hF := ob_some hF
    obtain ⟨q2, h3, hF⟩ := hF
    obtain ⟨g4, e5, P⟩ := rX1_settle (r := q2.1) (w' := q2.2) P h3
    refine GR.bind e5 ?_
    replace hF := okb_some hF
    obtain ⟨h6, hF⟩ := hF
    replace hF := bnd_e hF
    obtain ⟨w9, e10, hF⟩ := hF
    obtain ⟨g7, e8, P⟩ := P.sI (k := 8) (kd := 0) (j := v1) h0 (by decide) (by decide) (by decide) (by decide) h6 rfl e10
    refine GR.bind e8 ?_
    exact rX1_prepare_20 ih _ _ _ _ _ _ h0 P hF
def FX1_prepare (w : HS) (a0 : Nat) : Option (Unit × HS) :=
  okb (hc w a0 == 1) (FX1_prepare_2 FUEL w a0 (0 : Int32))
set_option maxHeartbeats 4000000 in
set_option maxRecDepth 100000 in
theorem rX1_prepare {ar : Nat → Nat → Nat} {c0 : Nat → Nat} {sz : Nat} {g : PH} {w w' : HS} {a0 : Nat} {r : Unit} (P : Rel ar c0 sz g w) (hF : FX1_prepare w a0 = some (r, w')) : GR ar c0 sz r w' (fX1_prepare g a0) := by
  unfold FX1_prepare at hF
  unfold fX1_prepare
  replace hF := okb_some hF
  obtain ⟨h0, hF⟩ := hF
  replace h0 := P.cls h0
  refine GR.ok (P.rO h0 (by decide)) ?_
  exact rX1_prepare_2  _ _ _ _ _ h0 P hF
def FX1_outcomeOf (w : HS) (a0 : Nat) (a1 : Int32) (a2 : Int32) (a3 : Int32) : Option (Int32 × HS) :=
  okb (hc w a0 == 1) (if (((a1 * (12 : Int32)) + (a2 * (4 : Int32))) + (a3 &&& (3 : Int32))) < 0 then (some ((0 : Int32), w)) else
  (if (24 : Int32) ≤ (((a1 * (12 : Int32)) + (a2 * (4 : Int32))) + (a3 &&& (3 : Int32))) then (some ((0 : Int32), w)) else
  (okb (inb (((a1 * (12 : Int32)) + (a2 * (4 : Int32))) + (a3 &&& (3 : Int32))) 24) (some ((ha w a0 7 (((a1 * (12 : Int32)) + (a2 * (4 : Int32))) + (a3 &&& (3 : Int32))).toNatClampNeg), w)))))
set_option maxHeartbeats 4000000 in
set_option maxRecDepth 100000 in
theorem rX1_outcomeOf {ar : Nat → Nat → Nat} {c0 : Nat → Nat} {sz : Nat} {g : PH} {w w' : HS} {a0 : Nat} {a1 : Int32} {a2 : Int32} {a3 : Int32} {r : Int32} (P : Rel ar c0 sz g w) (hF : FX1_outcomeOf w a0 a1 a2 a3 = some (r, w')) : GR ar c0 sz r w' (fX1_outcomeOf g a0 a1 a2 a3) := by
  unfold FX1_outcomeOf at hF
  unfold fX1_outcomeOf
  replace hF := okb_some hF
  obtain ⟨h0, hF⟩ := hF
  replace h0 := P.cls h0
  refine GR.ok (P.rO h0 (by decide)) ?_
  by_cases c1 : (((a1 * (12 : Int32)) + (a2 * (4 : Int32))) + (a3 &&& (3 : Int32))) < 0
  · replace hF := ite_t c1 hF
    refine GR.t c1 ?_
    obtain ⟨f1, f2⟩ := finW hF
    subst f1
    subst f2
    exact GR.ret P
  replace hF := ite_f c1 hF
  refine GR.f c1 ?_
  by_cases c2 : (24 : Int32) ≤ (((a1 * (12 : Int32)) + (a2 * (4 : Int32))) + (a3 &&& (3 : Int32)))
  · replace hF := ite_t c2 hF
    refine GR.t c2 ?_
    obtain ⟨f1, f2⟩ := finW hF
    subst f1
    subst f2
    exact GR.ret P
  replace hF := ite_f c2 hF
  refine GR.f c2 ?_
  refine GR.bind (P.getRa (k := 7) h0 (by decide) (by decide) (by decide)) ?_
  replace hF := okb_some hF
  obtain ⟨h3, hF⟩ := hF
  refine GR.bind (P.dI (k := 7) (n := (((a1 * (12 : Int32)) + (a2 * (4 : Int32))) + (a3 &&& (3 : Int32))).toNatClampNeg) h0 (by decide) (by decide) (by decide) (by decide) h3 rfl) ?_
  obtain ⟨f1, f2⟩ := finW hF
  subst f1
  subst f2
  exact GR.ret P
def FX1_settledFrom (w : HS) (a0 : Nat) (a1 : Int32) : Option (Int32 × HS) :=
  okb (hc w a0 == 1) (okb (inb (a1 &&& (3 : Int32)) 4) (some ((ha w a0 8 (a1 &&& (3 : Int32)).toNatClampNeg), w)))
set_option maxHeartbeats 4000000 in
set_option maxRecDepth 100000 in
theorem rX1_settledFrom {ar : Nat → Nat → Nat} {c0 : Nat → Nat} {sz : Nat} {g : PH} {w w' : HS} {a0 : Nat} {a1 : Int32} {r : Int32} (P : Rel ar c0 sz g w) (hF : FX1_settledFrom w a0 a1 = some (r, w')) : GR ar c0 sz r w' (fX1_settledFrom g a0 a1) := by
  unfold FX1_settledFrom at hF
  unfold fX1_settledFrom
  replace hF := okb_some hF
  obtain ⟨h0, hF⟩ := hF
  replace h0 := P.cls h0
  refine GR.ok (P.rO h0 (by decide)) ?_
  refine GR.bind (P.getRa (k := 8) h0 (by decide) (by decide) (by decide)) ?_
  replace hF := okb_some hF
  obtain ⟨h1, hF⟩ := hF
  refine GR.bind (P.dI (k := 8) (n := (a1 &&& (3 : Int32)).toNatClampNeg) h0 (by decide) (by decide) (by decide) (by decide) h1 rfl) ?_
  obtain ⟨f1, f2⟩ := finW hF
  subst f1
  subst f2
  exact GR.ret P
def FX1_placements (w : HS) (a0 : Nat) (a1 : Int32) : Option (Int32 × HS) :=
  okb (hc w a0 == 1) (if (hi w a0 1) = 0 then (some (a1, w)) else
  (some ((a1 * (a1 - (1 : Int32))), w)))
set_option maxHeartbeats 4000000 in
set_option maxRecDepth 100000 in
theorem rX1_placements {ar : Nat → Nat → Nat} {c0 : Nat → Nat} {sz : Nat} {g : PH} {w w' : HS} {a0 : Nat} {a1 : Int32} {r : Int32} (P : Rel ar c0 sz g w) (hF : FX1_placements w a0 a1 = some (r, w')) : GR ar c0 sz r w' (fX1_placements g a0 a1) := by
  unfold FX1_placements at hF
  unfold fX1_placements
  replace hF := okb_some hF
  obtain ⟨h0, hF⟩ := hF
  replace h0 := P.cls h0
  refine GR.ok (P.rO h0 (by decide)) ?_
  refine GR.bind (P.rI (k := 1) h0 (by decide) (by decide) (by decide)) ?_
  by_cases c1 : (hi w a0 1) = 0
  · replace hF := ite_t c1 hF
    refine GR.t c1 ?_
    obtain ⟨f1, f2⟩ := finW hF
    subst f1
    subst f2
    exact GR.ret P
  replace hF := ite_f c1 hF
  refine GR.f c1 ?_
  obtain ⟨f1, f2⟩ := finW hF
  subst f1
  subst f2
  exact GR.ret P
def FX1_aggressorOf (w : HS) (a0 : Nat) (a1 : Int32) (a2 : Int32) : Option (Int32 × HS) :=
  okb (hc w a0 == 1) (if (hi w a0 1) = 0 then (some ((-1 : Int32), w)) else
  (okb (decide (¬ (if (1 : Int32) < (a2 - (1 : Int32)) then (a2 - (1 : Int32)) else (1 : Int32)) = 0)) (some ((a1 / (if (1 : Int32) < (a2 - (1 : Int32)) then (a2 - (1 : Int32)) else (1 : Int32))), w))))
set_option maxHeartbeats 4000000 in
set_option maxRecDepth 100000 in
theorem rX1_aggressorOf {ar : Nat → Nat → Nat} {c0 : Nat → Nat} {sz : Nat} {g : PH} {w w' : HS} {a0 : Nat} {a1 : Int32} {a2 : Int32} {r : Int32} (P : Rel ar c0 sz g w) (hF : FX1_aggressorOf w a0 a1 a2 = some (r, w')) : GR ar c0 sz r w' (fX1_aggressorOf g a0 a1 a2) := by
  unfold FX1_aggressorOf at hF
  unfold fX1_aggressorOf
  replace hF := okb_some hF
  obtain ⟨h0, hF⟩ := hF
  replace h0 := P.cls h0
  refine GR.ok (P.rO h0 (by decide)) ?_
  refine GR.bind (P.rI (k := 1) h0 (by decide) (by decide) (by decide)) ?_
  by_cases c1 : (hi w a0 1) = 0
  · replace hF := ite_t c1 hF
    refine GR.t c1 ?_
    obtain ⟨f1, f2⟩ := finW hF
    subst f1
    subst f2
    exact GR.ret P
  replace hF := ite_f c1 hF
  refine GR.f c1 ?_
  replace hF := okb_some hF
  obtain ⟨h2, hF⟩ := hF
  refine GR.ok h2 ?_
  obtain ⟨f1, f2⟩ := finW hF
  subst f1
  subst f2
  exact GR.ret P
def FX1_victimOf (w : HS) (a0 : Nat) (a1 : Int32) (a2 : Int32) : Option (Int32 × HS) :=
  okb (hc w a0 == 1) (if (hi w a0 1) = 0 then (some (a1, w)) else
  (okb (decide (¬ (if (1 : Int32) < (a2 - (1 : Int32)) then (a2 - (1 : Int32)) else (1 : Int32)) = 0)) (okb (decide (¬ (if (1 : Int32) < (a2 - (1 : Int32)) then (a2 - (1 : Int32)) else (1 : Int32)) = 0)) (if (a1 / (if (1 : Int32) < (a2 - (1 : Int32)) then (a2 - (1 : Int32)) else (1 : Int32))) ≤ (a1 - a1 / (if (1 : Int32) < (a2 - (1 : Int32)) then (a2 - (1 : Int32)) else (1 : Int32)) * (if (1 : Int32) < (a2 - (1 : Int32)) then (a2 - (1 : Int32)) else (1 : Int32))) then (some (((a1 - a1 / (if (1 : Int32) < (a2 - (1 : Int32)) then (a2 - (1 : Int32)) else (1 : Int32)) * (if (1 : Int32) < (a2 - (1 : Int32)) then (a2 - (1 : Int32)) else (1 : Int32))) + (1 : Int32)), w)) else
  (some ((a1 - a1 / (if (1 : Int32) < (a2 - (1 : Int32)) then (a2 - (1 : Int32)) else (1 : Int32)) * (if (1 : Int32) < (a2 - (1 : Int32)) then (a2 - (1 : Int32)) else (1 : Int32))), w))))))
set_option maxHeartbeats 4000000 in
set_option maxRecDepth 100000 in
theorem rX1_victimOf {ar : Nat → Nat → Nat} {c0 : Nat → Nat} {sz : Nat} {g : PH} {w w' : HS} {a0 : Nat} {a1 : Int32} {a2 : Int32} {r : Int32} (P : Rel ar c0 sz g w) (hF : FX1_victimOf w a0 a1 a2 = some (r, w')) : GR ar c0 sz r w' (fX1_victimOf g a0 a1 a2) := by
  unfold FX1_victimOf at hF
  unfold fX1_victimOf
  replace hF := okb_some hF
  obtain ⟨h0, hF⟩ := hF
  replace h0 := P.cls h0
  refine GR.ok (P.rO h0 (by decide)) ?_
  refine GR.bind (P.rI (k := 1) h0 (by decide) (by decide) (by decide)) ?_
  by_cases c1 : (hi w a0 1) = 0
  · replace hF := ite_t c1 hF
    refine GR.t c1 ?_
    obtain ⟨f1, f2⟩ := finW hF
    subst f1
    subst f2
    exact GR.ret P
  replace hF := ite_f c1 hF
  refine GR.f c1 ?_
  replace hF := okb_some hF
  obtain ⟨h2, hF⟩ := hF
  refine GR.ok h2 ?_
  replace hF := okb_some hF
  obtain ⟨h3, hF⟩ := hF
  refine GR.ok h3 ?_
  by_cases c4 : (a1 / (if (1 : Int32) < (a2 - (1 : Int32)) then (a2 - (1 : Int32)) else (1 : Int32))) ≤ (a1 - a1 / (if (1 : Int32) < (a2 - (1 : Int32)) then (a2 - (1 : Int32)) else (1 : Int32)) * (if (1 : Int32) < (a2 - (1 : Int32)) then (a2 - (1 : Int32)) else (1 : Int32)))
  · replace hF := ite_t c4 hF
    refine GR.t c4 ?_
    obtain ⟨f1, f2⟩ := finW hF
    subst f1
    subst f2
    exact GR.ret P
  replace hF := ite_f c4 hF
  refine GR.f c4 ?_
  obtain ⟨f1, f2⟩ := finW hF
  subst f1
  subst f2
  exact GR.ret P
