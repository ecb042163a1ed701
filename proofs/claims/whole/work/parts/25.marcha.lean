def FX2_scanWay (w : HS) (a0 : Nat) (a1 : Nat) : Option (Int32 × HS) :=
  okb (hc w a0 == 2) ((FX6_takeWord w a1 7).bind fun q1 =>
  (if q1.1 = 0 then ((FX6_takeWord q1.2 a1 8).bind fun q6 =>
  (if q6.1 = 0 then ((FX6_takeWord q6.2 a1 9).bind fun q11 =>
  (if q11.1 = 0 then (some ((-1 : Int32), q11.2)) else
  (some ((2 : Int32), q11.2)))) else
  (some ((1 : Int32), q6.2)))) else
  (some ((0 : Int32), q1.2))))
set_option maxHeartbeats 4000000 in
set_option maxRecDepth 100000 in
theorem rX2_scanWay {ar : Nat → Nat → Nat} {c0 : Nat → Nat} {sz : Nat} {g : PH} {w w' : HS} {a0 : Nat} {a1 : Nat} {r : Int32} (P : Rel ar c0 sz g w) (hF : FX2_scanWay w a0 a1 = some (r, w')) : GR ar c0 sz r w' (fX2_scanWay g a0 a1) := by
  unfold FX2_scanWay at hF
  unfold fX2_scanWay
  replace hF := okb_some hF
  obtain ⟨h0, hF⟩ := hF
  replace h0 := P.cls h0
  refine GR.ok (P.rO h0 (by decide)) ?_
  replace hF := ob_some hF
  obtain ⟨q1, h2, hF⟩ := hF
  obtain ⟨g3, e4, P⟩ := rX6_takeWord (r := q1.1) (w' := q1.2) P h2
  refine GR.bind e4 ?_
  by_cases c5 : q1.1 = 0
  · replace hF := ite_t c5 hF
    refine GR.t c5 ?_
    replace hF := ob_some hF
    obtain ⟨q6, h7, hF⟩ := hF
    obtain ⟨g8, e9, P⟩ := rX6_takeWord (r := q6.1) (w' := q6.2) P h7
    refine GR.bind e9 ?_
    by_cases c10 : q6.1 = 0
    · replace hF := ite_t c10 hF
      refine GR.t c10 ?_
      replace hF := ob_some hF
      obtain ⟨q11, h12, hF⟩ := hF
      obtain ⟨g13, e14, P⟩ := rX6_takeWord (r := q11.1) (w' := q11.2) P h12
      refine GR.bind e14 ?_
      by_cases c15 : q11.1 = 0
      · replace hF := ite_t c15 hF
        refine GR.t c15 ?_
        obtain ⟨f1, f2⟩ := finW hF
        subst f1
        subst f2
        exact GR.ret P
      replace hF := ite_f c15 hF
      refine GR.f c15 ?_
      obtain ⟨f1, f2⟩ := finW hF
      subst f1
      subst f2
      exact GR.ret P
    replace hF := ite_f c10 hF
    refine GR.f c10 ?_
    obtain ⟨f1, f2⟩ := finW hF
    subst f1
    subst f2
    exact GR.ret P
  replace hF := ite_f c5 hF
  refine GR.f c5 ?_
  obtain ⟨f1, f2⟩ := finW hF
  subst f1
  subst f2
  exact GR.ret P
def FX2_scanOp_85  (w : HS) (v0 : Nat) (v3 : Int32) (v4 : Int32) (v5 : Int32) : Option (Unit × HS) :=
  okb (inb (((hi w v0 0) * (6 : Int32)) + v4) 48) (bnd (setA w v0 8 (((hi w v0 0) * (6 : Int32)) + v4).toNatClampNeg ((v3 * (2 : Int32)) + v5)) fun w4 =>
  (okb (inb (hi w4 v0 0) 8) (bnd (setA w4 v0 6 (hi w4 v0 0).toNatClampNeg (v4 + (1 : Int32))) fun w9 =>
  (if v3 = 0 then (okb (inb (hi w9 v0 0) 8) (okb (inb (hi w9 v0 0) 8) (bnd (setA w9 v0 7 (hi w9 v0 0).toNatClampNeg ((ha w9 v0 7 (hi w9 v0 0).toNatClampNeg) + (1 : Int32))) fun w16 =>
  (some ((), w16))))) else
  (bnd (setI w9 v0 4 v5) fun w18 =>
  (some ((), w18)))))))
set_option maxHeartbeats 4000000 in
set_option maxRecDepth 100000 in
theorem rX2_scanOp_85 {ar : Nat → Nat → Nat} {c0 : Nat → Nat} {sz : Nat} {r : Unit} {w' : HS}   {g : PH} {w : HS} {v0 : Nat} {v3 : Int32} {v4 : Int32} {v5 : Int32} (h0 : c0 v0 = 2) (P : Rel ar c0 sz g w) (hF : FX2_scanOp_85  w v0 v3 v4 v5 = some (r, w')) : GR ar c0 sz r w' (fX2_scanOp_85  g v0 v3 v4 v5) := by
  unfold FX2_scanOp_85 at hF
  unfold fX2_scanOp_85
  refine GR.bind (P.getRa (k := 8) h0 (by decide) (by decide) (by decide)) ?_
  refine GR.bind (P.rI (k := 0) h0 (by decide) (by decide) (by decide)) ?_
  replace hF := okb_some hF
  obtain ⟨h1, hF⟩ := hF
  replace hF := bnd_e hF
  obtain ⟨w4, e5, hF⟩ := hF
  obtain ⟨g2, e3, P⟩ := P.sI (k := 8) (kd := 0) (j := (((hi w v0 0) * (6 : Int32)) + v4)) h0 (by decide) (by decide) (by decide) (by decide) h1 rfl e5
  refine GR.bind e3 ?_
  refine GR.bind (P.getRa (k := 6) h0 (by decide) (by decide) (by decide)) ?_
  refine GR.bind (P.rI (k := 0) h0 (by decide) (by decide) (by decide)) ?_
  replace hF := okb_some hF
  obtain ⟨h6, hF⟩ := hF
  replace hF := bnd_e hF
  obtain ⟨w9, e10, hF⟩ := hF
  obtain ⟨g7, e8, P⟩ := P.sI (k := 6) (kd := 0) (j := (hi w4 v0 0)) h0 (by decide) (by decide) (by decide) (by decide) h6 rfl e10
  refine GR.bind e8 ?_
  by_cases c11 : v3 = 0
  · replace hF := ite_t c11 hF
    refine GR.t c11 ?_
    refine GR.bind (P.getRa (k := 7) h0 (by decide) (by decide) (by decide)) ?_
    refine GR.bind (P.rI (k := 0) h0 (by decide) (by decide) (by decide)) ?_
    replace hF := okb_some hF
    obtain ⟨h12, hF⟩ := hF
    refine GR.bind (P.dI (k := 7) (n := (hi w9 v0 0).toNatClampNeg) h0 (by decide) (by decide) (by decide) (by decide) h12 rfl) ?_
    replace hF := okb_some hF
    obtain ⟨h13, hF⟩ := hF
    replace hF := bnd_e hF
    obtain ⟨w16, e17, hF⟩ := hF
    obtain ⟨g14, e15, P⟩ := P.sI (k := 7) (kd := 0) (j := (hi w9 v0 0)) h0 (by decide) (by decide) (by decide) (by decide) h13 rfl e17
    refine GR.bind e15 ?_
    obtain ⟨f1, f2⟩ := finW hF
    subst f1
    subst f2
    exact GR.ret P
  replace hF := ite_f c11 hF
  refine GR.f c11 ?_
  replace hF := bnd_e hF
  obtain ⟨w18, e19, hF⟩ := hF
  obtain ⟨g20, e21, P⟩ := P.putI (k := 4) h0 (by decide) (by decide) (by decide) e19
  refine GR.bind e21 ?_
  obtain ⟨f1, f2⟩ := finW hF
  subst f1
  subst f2
  exact GR.ret P
def FX2_scanOp (w : HS) (a0 : Nat) (a1 : Nat) : Option (Unit × HS) :=
  okb (hc w a0 == 2) ((FX6_nextPlace w a1).bind fun q1 =>
  ((FX6_take q1.2 a1 11).bind fun q5 =>
  (if q5.1 = (-1 : Int32) then (some ((), q5.2)) else
  (if (hi q5.2 a0 0) < (8 : Int32) then (okb (inb (hi q5.2 a0 0) 8) (if (ha q5.2 a0 6 (hi q5.2 a0 0).toNatClampNeg) < (6 : Int32) then ((FX6_take q5.2 a1 12).bind fun q13 =>
  (if q5.1 = 0 then (if q13.1 = (-1 : Int32) then (FX2_scanOp_85 q13.2 a0 q5.1 (ha q5.2 a0 6 (hi q5.2 a0 0).toNatClampNeg) q13.1) else
  (if q13.1 = (hi q13.2 a0 4) then (FX2_scanOp_85 q13.2 a0 q5.1 (ha q5.2 a0 6 (hi q5.2 a0 0).toNatClampNeg) q13.1) else
  ((FX6_blame q13.2 a1 q1.1 (4 : Int32)).bind fun q20 =>
  (FX2_scanOp_85 q20.2 a0 q5.1 (ha q5.2 a0 6 (hi q5.2 a0 0).toNatClampNeg) q13.1)))) else
  (FX2_scanOp_85 q13.2 a0 q5.1 (ha q5.2 a0 6 (hi q5.2 a0 0).toNatClampNeg) q13.1))) else
  ((FX6_blame q5.2 a1 q1.1 (3 : Int32)).bind fun q24 =>
  (some ((), q24.2))))) else
  (some ((), q5.2))))))
set_option maxHeartbeats 4000000 in
set_option maxRecDepth 100000 in
theorem rX2_scanOp {ar : Nat → Nat → Nat} {c0 : Nat → Nat} {sz : Nat} {g : PH} {w w' : HS} {a0 : Nat} {a1 : Nat} {r : Unit} (P : Rel ar c0 sz g w) (hF : FX2_scanOp w a0 a1 = some (r, w')) : GR ar c0 sz r w' (fX2_scanOp g a0 a1) := by
  unfold FX2_scanOp at hF
  unfold fX2_scanOp
  replace hF := okb_some hF
  obtain ⟨h0, hF⟩ := hF
  replace h0 := P.cls h0
  refine GR.ok (P.rO h0 (by decide)) ?_
  replace hF := ob_some hF
  obtain ⟨q1, h2, hF⟩ := hF
  obtain ⟨g3, e4, P⟩ := rX6_nextPlace (r := q1.1) (w' := q1.2) P h2
  refine GR.bind e4 ?_
  replace hF := ob_some hF
  obtain ⟨q5, h6, hF⟩ := hF
  obtain ⟨g7, e8, P⟩ := rX6_take (r := q5.1) (w' := q5.2) P h6
  refine GR.bind e8 ?_
  by_cases c9 : q5.1 = (-1 : Int32)
  · replace hF := ite_t c9 hF
    refine GR.t c9 ?_
    obtain ⟨f1, f2⟩ := finW hF
    subst f1
    subst f2
    exact GR.ret P
  replace hF := ite_f c9 hF
  refine GR.f c9 ?_
  refine GR.bind (P.rI (k := 0) h0 (by decide) (by decide) (by decide)) ?_
  by_cases c10 : (hi q5.2 a0 0) < (8 : Int32)
  · replace hF := ite_t c10 hF
    refine GR.t c10 ?_
    refine GR.bind (P.getRa (k := 6) h0 (by decide) (by decide) (by decide)) ?_
    refine GR.bind (P.rI (k := 0) h0 (by decide) (by decide) (by decide)) ?_
    replace hF := okb_some hF
    obtain ⟨h11, hF⟩ := hF
    refine GR.bind (P.dI (k := 6) (n := (hi q5.2 a0 0).toNatClampNeg) h0 (by decide) (by decide) (by decide) (by decide) h11 rfl) ?_
    by_cases c12 : (ha q5.2 a0 6 (hi q5.2 a0 0).toNatClampNeg) < (6 : Int32)
    · replace hF := ite_t c12 hF
      refine GR.t c12 ?_
      replace hF := ob_some hF
      obtain ⟨q13, h14, hF⟩ := hF
      obtain ⟨g15, e16, P⟩ := rX6_take (r := q13.1) (w' := q13.2) P h14
      refine GR.bind e16 ?_
      by_cases c17 : q5.1 = 0
      · replace hF := ite_t c17 hF
        refine GR.t c17 ?_
        by_cases c18 : q13.1 = (-1 : Int32)
        · replace hF := ite_t c18 hF
          refine GR.t c18 ?_
          exact rX2_scanOp_85  h0 P hF
        replace hF := ite_f c18 hF
        refine GR.f c18 ?_
        refine GR.bind (P.rI (k := 4) h0 (by decide) (by decide) (by decide)) ?_
        by_cases c19 : q13.1 = (hi q13.2 a0 4)
        · replace hF := ite_t c19 hF
          refine GR.t c19 ?_
          exact rX2_scanOp_85  h0 P hF
        replace hF := ite_f c19 hF
        refine GR.f c19 ?_
        replace hF := ob_some hF
        obtain ⟨q20, h21, hF⟩ := hF
        obtain ⟨g22, e23, P⟩ := rX6_blame (r := q20.1) (w' := q20.2) P h21
        refine GR.bind e23 ?_
        exact rX2_scanOp_85  h0 P hF
      replace hF := ite_f c17 hF
      refine GR.f c17 ?_
      exact rX2_scanOp_85  h0 P hF
    replace hF := ite_f c12 hF
    refine GR.f c12 ?_
    replace hF := ob_some hF
    obtain ⟨q24, h25, hF⟩ := hF
    obtain ⟨g26, e27, P⟩ := rX6_blame (r := q24.1) (w' := q24.2) P h25
    refine GR.bind e27 ?_
    obtain ⟨f1, f2⟩ := finW hF
    subst f1
    subst f2
    exact GR.ret P
  replace hF := ite_f c10 hF
  refine GR.f c10 ?_
  obtain ⟨f1, f2⟩ := finW hF
  subst f1
  subst f2
  exact GR.ret P
def FX2_scanElement_45  (w : HS) (v1 : Nat) (v2 : Int32) : Option (Unit × HS) :=
  (FX6_blame w v1 v2 (2 : Int32)).bind fun q1 =>
  (some ((), q1.2))
set_option maxHeartbeats 4000000 in
set_option maxRecDepth 100000 in
theorem rX2_scanElement_45 {ar : Nat → Nat → Nat} {c0 : Nat → Nat} {sz : Nat} {r : Unit} {w' : HS}   {g : PH} {w : HS} {v1 : Nat} {v2 : Int32} (P : Rel ar c0 sz g w) (hF : FX2_scanElement_45  w v1 v2 = some (r, w')) : GR ar c0 sz r w' (fX2_scanElement_45  g v1 v2) := by
  unfold FX2_scanElement_45 at hF
  unfold fX2_scanElement_45
  replace hF := ob_some hF
  obtain ⟨q1, h2, hF⟩ := hF
  obtain ⟨g3, e4, P⟩ := rX6_blame (r := q1.1) (w' := q1.2) P h2
  refine GR.bind e4 ?_
  obtain ⟨f1, f2⟩ := finW hF
  subst f1
  subst f2
  exact GR.ret P
def FX2_scanElement_137  (w : HS) (v0 : Nat) : Option (Unit × HS) :=
  okb (inb (hi w v0 0) 8) (bnd (setI w v0 1 ((hi w v0 1) + (ha w v0 6 (hi w v0 0).toNatClampNeg))) fun w2 =>
  (okb (inb (hi w2 v0 0) 8) (bnd (setI w2 v0 2 ((hi w2 v0 2) + (ha w2 v0 7 (hi w2 v0 0).toNatClampNeg))) fun w7 =>
  (bnd (setI w7 v0 0 ((hi w7 v0 0) + (1 : Int32))) fun w11 =>
  (some ((), w11))))))
set_option maxHeartbeats 4000000 in
set_option maxRecDepth 100000 in
theorem rX2_scanElement_137 {ar : Nat → Nat → Nat} {c0 : Nat → Nat} {sz : Nat} {r : Unit} {w' : HS}   {g : PH} {w : HS} {v0 : Nat} (h0 : c0 v0 = 2) (P : Rel ar c0 sz g w) (hF : FX2_scanElement_137  w v0 = some (r, w')) : GR ar c0 sz r w' (fX2_scanElement_137  g v0) := by
  unfold FX2_scanElement_137 at hF
  unfold fX2_scanElement_137
  refine GR.bind (P.rI (k := 1) h0 (by decide) (by decide) (by decide)) ?_
  refine GR.bind (P.getRa (k := 6) h0 (by decide) (by decide) (by decide)) ?_
  refine GR.bind (P.rI (k := 0) h0 (by decide) (by decide) (by decide)) ?_
  replace hF := okb_some hF
  obtain ⟨h1, hF⟩ := hF
  refine GR.bind (P.dI (k := 6) (n := (hi w v0 0).toNatClampNeg) h0 (by decide) (by decide) (by decide) (by decide) h1 rfl) ?_
  replace hF := bnd_e hF
  obtain ⟨w2, e3, hF⟩ := hF
  obtain ⟨g4, e5, P⟩ := P.putI (k := 1) h0 (by decide) (by decide) (by decide) e3
  refine GR.bind e5 ?_
  refine GR.bind (P.rI (k := 2) h0 (by decide) (by decide) (by decide)) ?_
  refine GR.bind (P.getRa (k := 7) h0 (by decide) (by decide) (by decide)) ?_
  refine GR.bind (P.rI (k := 0) h0 (by decide) (by decide) (by decide)) ?_
  replace hF := okb_some hF
  obtain ⟨h6, hF⟩ := hF
  refine GR.bind (P.dI (k := 7) (n := (hi w2 v0 0).toNatClampNeg) h0 (by decide) (by decide) (by decide) (by decide) h6 rfl) ?_
  replace hF := bnd_e hF
  obtain ⟨w7, e8, hF⟩ := hF
  obtain ⟨g9, e10, P⟩ := P.putI (k := 2) h0 (by decide) (by decide) (by decide) e8
  refine GR.bind e10 ?_
  refine GR.bind (P.rI (k := 0) h0 (by decide) (by decide) (by decide)) ?_
  replace hF := bnd_e hF
  obtain ⟨w11, e12, hF⟩ := hF
  obtain ⟨g13, e14, P⟩ := P.putI (k := 0) h0 (by decide) (by decide) (by decide) e12
  refine GR.bind e14 ?_
  obtain ⟨f1, f2⟩ := finW hF
  subst f1
  subst f2
  exact GR.ret P
def FX2_scanElement_110  : Nat → HS → Nat → Nat → Int32 → Option (Unit × HS)
  | 0, _, _, _, _ => none
  | n + 1, w, v0, v1, v4 =>
  if (6 : Int32) ≤ v4 then (FX2_scanElement_137 w v0) else
  ((FX6_take w v1 13).bind fun q2 =>
  (if q2.1 = 0 then ((FX2_scanOp q2.2 v0 v1).bind fun q7 =>
  (FX2_scanElement_110 n q7.2 v0 v1 (v4 + (1 : Int32)))) else
  (FX2_scanElement_137 q2.2 v0)))
set_option maxHeartbeats 4000000 in
set_option maxRecDepth 100000 in
theorem rX2_scanElement_110 {ar : Nat → Nat → Nat} {c0 : Nat → Nat} {sz : Nat} {r : Unit} {w' : HS}   : ∀ (n : Nat) (g : PH) (w : HS) (v0 : Nat) (v1 : Nat) (v4 : Int32), c0 v0 = 2 → Rel ar c0 sz g w → FX2_scanElement_110  n w v0 v1 v4 = some (r, w') → GR ar c0 sz r w' (fX2_scanElement_110  n g v0 v1 v4) := by
  intro n
  induction n with
  | zero =>
    intro g w v0 v1 v4 h0 P hF
    rw [FX2_scanElement_110] at hF
    cases hF
  | succ n ih =>
    intro g w v0 v1 v4 h0 P hF
    rw [FX2_scanElement_110] at hF
    rw [fX2_scanElement_110]
    by_cases c1 : (6 : Int32) ≤ v4
    · replace hF := ite_t c1 hF
      refine GR.t c1 ?_
      exact rX2_scanElement_137  h0 P hF
    replace hF := ite_f c1 hF
    refine GR.f c1 ?_
    replace hF := ob_some hF
    obtain ⟨q2, h3, hF⟩ := hF
    obtain ⟨g4, e5, P⟩ := rX6_take (r := q2.1) (w' := q2.2) P h3
    refine GR.bind e5 ?_
    by_cases c6 : q2.1 = 0
    · replace hF := ite_t c6 hF
      refine GR.t c6 ?_
      replace hF := ob_some hF
      obtain ⟨q7, h8, hF⟩ := hF
      obtain ⟨g9, e10, P⟩ := rX2_scanOp (r := q7.1) (w' := q7.2) P h8
      refine GR.bind e10 ?_
      exact ih _ _ _ _ _ h0 P hF
    replace hF := ite_f c6 hF
    refine GR.f c6 ?_
    exact rX2_scanElement_137  h0 P hF
def FX2_scanElement_91  (w : HS) (v0 : Nat) (v1 : Nat) (s0 : Int32) (s1 : Int32) (s2 : Nat) : Option (Unit × HS) :=
  okb (hc w s2 == 2) (bnd (setI w s2 3 (s1 + s0)) fun w2 =>
  ((FX6_take w2 v1 10).bind fun q6 =>
  ((FX2_scanOp q6.2 v0 v1).bind fun q10 =>
  (FX2_scanElement_110 FUEL q10.2 v0 v1 (0 : Int32)))))
set_option maxHeartbeats 4000000 in
set_option maxRecDepth 100000 in
theorem rX2_scanElement_91 {ar : Nat → Nat → Nat} {c0 : Nat → Nat} {sz : Nat} {r : Unit} {w' : HS}   {g : PH} {w : HS} {v0 : Nat} {v1 : Nat} {s0 : Int32} {s1 : Int32} {s2 : Nat} (h0 : c0 v0 = 2) (P : Rel ar c0 sz g w) (hF : FX2_scanElement_91  w v0 v1 s0 s1 s2 = some (r, w')) : GR ar c0 sz r w' (fX2_scanElement_91  g v0 v1 s0 s1 s2) := by
  unfold FX2_scanElement_91 at hF
  unfold fX2_scanElement_91
  replace hF := okb_some hF
  obtain ⟨h1, hF⟩ := hF
  replace h1 := P.cls h1
  replace hF := bnd_e hF
  obtain ⟨w2, e3, hF⟩ := hF
  obtain ⟨g4, e5, P⟩ := P.putI (k := 3) h1 (by decide) (by decide) (by decide) e3
  refine GR.bind e5 ?_
  replace hF := ob_some hF
  obtain ⟨q6, h7, hF⟩ := hF
  obtain ⟨g8, e9, P⟩ := rX6_take (r := q6.1) (w' := q6.2) P h7
  refine GR.bind e9 ?_
  replace hF := ob_some hF
  obtain ⟨q10, h11, hF⟩ := hF
  obtain ⟨g12, e13, P⟩ := rX2_scanOp (r := q10.1) (w' := q10.2) P h11
  refine GR.bind e13 ?_
  exact rX2_scanElement_110  _ _ _ _ _ _ h0 P hF
def FX2_scanElement_75  (w : HS) (v0 : Nat) (v1 : Nat) (v3 : Int32) (s0 : Int32) (s1 : Int32) (s2 : Nat) : Option (Unit × HS) :=
  okb (hc w s2 == 2) (okb (inb s1 8) (bnd (setA w s2 5 s1.toNatClampNeg s0) fun w5 =>
  (if v3 = (2 : Int32) then (FX2_scanElement_91 w5 v0 v1 (1 : Int32) (hi w5 v0 3) v0) else
  (FX2_scanElement_91 w5 v0 v1 (0 : Int32) (hi w5 v0 3) v0))))
set_option maxHeartbeats 4000000 in
set_option maxRecDepth 100000 in
theorem rX2_scanElement_75 {ar : Nat → Nat → Nat} {c0 : Nat → Nat} {sz : Nat} {r : Unit} {w' : HS}   {g : PH} {w : HS} {v0 : Nat} {v1 : Nat} {v3 : Int32} {s0 : Int32} {s1 : Int32} {s2 : Nat} (h0 : c0 v0 = 2) (P : Rel ar c0 sz g w) (hF : FX2_scanElement_75  w v0 v1 v3 s0 s1 s2 = some (r, w')) : GR ar c0 sz r w' (fX2_scanElement_75  g v0 v1 v3 s0 s1 (ar s2 5)) := by
  unfold FX2_scanElement_75 at hF
  unfold fX2_scanElement_75
  replace hF := okb_some hF
  obtain ⟨h1, hF⟩ := hF
  replace h1 := P.cls h1
  replace hF := okb_some hF
  obtain ⟨h2, hF⟩ := hF
  replace hF := bnd_e hF
  obtain ⟨w5, e6, hF⟩ := hF
  obtain ⟨g3, e4, P⟩ := P.sI (k := 5) (kd := 0) (j := s1) h1 (by decide) (by decide) (by decide) (by decide) h2 rfl e6
  refine GR.bind e4 ?_
  refine GR.bind (P.rI (k := 3) h0 (by decide) (by decide) (by decide)) ?_
  by_cases c7 : v3 = (2 : Int32)
  · replace hF := ite_t c7 hF
    refine GR.t c7 ?_
    exact rX2_scanElement_91  h0 P hF
  replace hF := ite_f c7 hF
  refine GR.f c7 ?_
  exact rX2_scanElement_91  h0 P hF
def FX2_scanElement_52  (w : HS) (v0 : Nat) (v1 : Nat) (v3 : Int32) : Option (Unit × HS) :=
  if v3 = (2 : Int32) then (FX2_scanElement_75 w v0 v1 v3 ((2 : Int32) + (hi w v0 3)) (hi w v0 0) v0) else
  (FX2_scanElement_75 w v0 v1 v3 v3 (hi w v0 0) v0)
set_option maxHeartbeats 4000000 in
set_option maxRecDepth 100000 in
theorem rX2_scanElement_52 {ar : Nat → Nat → Nat} {c0 : Nat → Nat} {sz : Nat} {r : Unit} {w' : HS}   {g : PH} {w : HS} {v0 : Nat} {v1 : Nat} {v3 : Int32} (h0 : c0 v0 = 2) (P : Rel ar c0 sz g w) (hF : FX2_scanElement_52  w v0 v1 v3 = some (r, w')) : GR ar c0 sz r w' (fX2_scanElement_52  g v0 v1 v3) := by
  unfold FX2_scanElement_52 at hF
  unfold fX2_scanElement_52
  refine GR.bind (P.getRa (k := 5) h0 (by decide) (by decide) (by decide)) ?_
  refine GR.bind (P.rI (k := 0) h0 (by decide) (by decide) (by decide)) ?_
  by_cases c1 : v3 = (2 : Int32)
  · replace hF := ite_t c1 hF
    refine GR.t c1 ?_
    refine GR.bind (P.rI (k := 3) h0 (by decide) (by decide) (by decide)) ?_
    exact rX2_scanElement_75  h0 P hF
  replace hF := ite_f c1 hF
  refine GR.f c1 ?_
  exact rX2_scanElement_75  h0 P hF
def FX2_scanElement (w : HS) (a0 : Nat) (a1 : Nat) : Option (Unit × HS) :=
  okb (hc w a0 == 2) ((FX6_nextPlace w a1).bind fun q1 =>
  ((FX2_scanWay q1.2 a0 a1).bind fun q5 =>
  (if q5.1 = (-1 : Int32) then ((FX6_blame q5.2 a1 q1.1 (1 : Int32)).bind fun q10 =>
  (some ((), q10.2))) else
  (if (8 : Int32) ≤ (hi q5.2 a0 0) then (FX2_scanElement_45 q5.2 a1 q1.1) else
  (if q5.1 = (2 : Int32) then (if (hi q5.2 a0 3) < (3 : Int32) then (FX2_scanElement_52 q5.2 a0 a1 q5.1) else
  (FX2_scanElement_45 q5.2 a1 q1.1)) else
  (FX2_scanElement_52 q5.2 a0 a1 q5.1))))))
set_option maxHeartbeats 4000000 in
set_option maxRecDepth 100000 in
theorem rX2_scanElement {ar : Nat → Nat → Nat} {c0 : Nat → Nat} {sz : Nat} {g : PH} {w w' : HS} {a0 : Nat} {a1 : Nat} {r : Unit} (P : Rel ar c0 sz g w) (hF : FX2_scanElement w a0 a1 = some (r, w')) : GR ar c0 sz r w' (fX2_scanElement g a0 a1) := by
  unfold FX2_scanElement at hF
  unfold fX2_scanElement
  replace hF := okb_some hF
  obtain ⟨h0, hF⟩ := hF
  replace h0 := P.cls h0
  refine GR.ok (P.rO h0 (by decide)) ?_
  replace hF := ob_some hF
  obtain ⟨q1, h2, hF⟩ := hF
  obtain ⟨g3, e4, P⟩ := rX6_nextPlace (r := q1.1) (w' := q1.2) P h2
  refine GR.bind e4 ?_
  replace hF := ob_some hF
  obtain ⟨q5, h6, hF⟩ := hF
  obtain ⟨g7, e8, P⟩ := rX2_scanWay (r := q5.1) (w' := q5.2) P h6
  refine GR.bind e8 ?_
  by_cases c9 : q5.1 = (-1 : Int32)
  · replace hF := ite_t c9 hF
    refine GR.t c9 ?_
    replace hF := ob_some hF
    obtain ⟨q10, h11, hF⟩ := hF
    obtain ⟨g12, e13, P⟩ := rX6_blame (r := q10.1) (w' := q10.2) P h11
    refine GR.bind e13 ?_
    obtain ⟨f1, f2⟩ := finW hF
    subst f1
    subst f2
    exact GR.ret P
  replace hF := ite_f c9 hF
  refine GR.f c9 ?_
  refine GR.bind (P.rI (k := 0) h0 (by decide) (by decide) (by decide)) ?_
  by_cases c14 : (8 : Int32) ≤ (hi q5.2 a0 0)
  · replace hF := ite_t c14 hF
    refine GR.t c14 ?_
    exact rX2_scanElement_45  P hF
  replace hF := ite_f c14 hF
  refine GR.f c14 ?_
  by_cases c15 : q5.1 = (2 : Int32)
  · replace hF := ite_t c15 hF
    refine GR.t c15 ?_
    refine GR.bind (P.rI (k := 3) h0 (by decide) (by decide) (by decide)) ?_
    by_cases c16 : (hi q5.2 a0 3) < (3 : Int32)
    · replace hF := ite_t c16 hF
      refine GR.t c16 ?_
      exact rX2_scanElement_52  h0 P hF
    replace hF := ite_f c16 hF
    refine GR.f c16 ?_
    exact rX2_scanElement_45  P hF
  replace hF := ite_f c15 hF
  refine GR.f c15 ?_
  exact rX2_scanElement_52  h0 P hF
def FX2_scan_11  : Nat → HS → Nat → Nat → Int32 → Option (Unit × HS)
  | 0, _, _, _, _ => none
  | n + 1, w, v0, v1, v2 =>
  if (8 : Int32) ≤ v2 then (some ((), w)) else
  ((FX6_isOver w v1).bind fun q2 =>
  (if q2.1 = 0 then ((FX6_take q2.2 v1 14).bind fun q7 =>
  ((FX2_scanElement q7.2 v0 v1).bind fun q11 =>
  (FX2_scan_11 n q11.2 v0 v1 (v2 + (1 : Int32))))) else
  (some ((), q2.2))))
set_option maxHeartbeats 4000000 in
set_option maxRecDepth 100000 in
theorem rX2_scan_11 {ar : Nat → Nat → Nat} {c0 : Nat → Nat} {sz : Nat} {r : Unit} {w' : HS}   : ∀ (n : Nat) (g : PH) (w : HS) (v0 : Nat) (v1 : Nat) (v2 : Int32), c0 v0 = 2 → Rel ar c0 sz g w → FX2_scan_11  n w v0 v1 v2 = some (r, w') → GR ar c0 sz r w' (fX2_scan_11  n g v0 v1 v2) := by
  intro n
  induction n with
  | zero =>
    intro g w v0 v1 v2 h0 P hF
    rw [FX2_scan_11] at hF
    cases hF
  | succ n ih =>
    intro g w v0 v1 v2 h0 P hF
    rw [FX2_scan_11] at hF
    rw [fX2_scan_11]
    by_cases c1 : (8 : Int32) ≤ v2
    · replace hF := ite_t c1 hF
      refine GR.t c1 ?_
      obtain ⟨f1, f2⟩ := finW hF
      subst f1
      subst f2
      exact GR.ret P
    replace hF := ite_f c1 hF
    refine GR.f c1 ?_
    replace hF := ob_some hF
    obtain ⟨q2, h3, hF⟩ := hF
    obtain ⟨g4, e5, P⟩ := rX6_isOver (r := q2.1) (w' := q2.2) P h3
    refine GR.bind e5 ?_
    by_cases c6 : q2.1 = 0
    · replace hF := ite_t c6 hF
      refine GR.t c6 ?_
      replace hF := ob_some hF
      obtain ⟨q7, h8, hF⟩ := hF
      obtain ⟨g9, e10, P⟩ := rX6_take (r := q7.1) (w' := q7.2) P h8
      refine GR.bind e10 ?_
      replace hF := ob_some hF
      obtain ⟨q11, h12, hF⟩ := hF
      obtain ⟨g13, e14, P⟩ := rX2_scanElement (r := q11.1) (w' := q11.2) P h12
      refine GR.bind e14 ?_
      exact ih _ _ _ _ _ h0 P hF
    replace hF := ite_f c6 hF
    refine GR.f c6 ?_
    obtain ⟨f1, f2⟩ := finW hF
    subst f1
    subst f2
    exact GR.ret P
def FX2_scan (w : HS) (a0 : Nat) (a1 : Nat) : Option (Unit × HS) :=
  okb (hc w a0 == 2) ((FX6_rewind w a1).bind fun q1 =>
  ((FX2_scanElement q1.2 a0 a1).bind fun q5 =>
  (FX2_scan_11 FUEL q5.2 a0 a1 (0 : Int32))))
set_option maxHeartbeats 4000000 in
set_option maxRecDepth 100000 in
theorem rX2_scan {ar : Nat → Nat → Nat} {c0 : Nat → Nat} {sz : Nat} {g : PH} {w w' : HS} {a0 : Nat} {a1 : Nat} {r : Unit} (P : Rel ar c0 sz g w) (hF : FX2_scan w a0 a1 = some (r, w')) : GR ar c0 sz r w' (fX2_scan g a0 a1) := by
  unfold FX2_scan at hF
  unfold fX2_scan
  replace hF := okb_some hF
  obtain ⟨h0, hF⟩ := hF
  replace h0 := P.cls h0
  refine GR.ok (P.rO h0 (by decide)) ?_
  replace hF := ob_some hF
  obtain ⟨q1, h2, hF⟩ := hF
  obtain ⟨g3, e4, P⟩ := rX6_rewind (r := q1.1) (w' := q1.2) P h2
  refine GR.bind e4 ?_
  replace hF := ob_some hF
  obtain ⟨q5, h6, hF⟩ := hF
  obtain ⟨g7, e8, P⟩ := rX2_scanElement (r := q5.1) (w' := q5.2) P h6
  refine GR.bind e8 ?_
  exact rX2_scan_11  _ _ _ _ _ _ h0 P hF
def FX2_wayOf (w : HS) (a0 : Nat) (a1 : Int32) : Option (Int32 × HS) :=
  okb (hc w a0 == 2) (if a1 < 0 then (some ((0 : Int32), w)) else
  (if (8 : Int32) ≤ a1 then (some ((0 : Int32), w)) else
  (okb (inb a1 8) (some ((ha w a0 5 a1.toNatClampNeg), w)))))
set_option maxHeartbeats 4000000 in
set_option maxRecDepth 100000 in
theorem rX2_wayOf {ar : Nat → Nat → Nat} {c0 : Nat → Nat} {sz : Nat} {g : PH} {w w' : HS} {a0 : Nat} {a1 : Int32} {r : Int32} (P : Rel ar c0 sz g w) (hF : FX2_wayOf w a0 a1 = some (r, w')) : GR ar c0 sz r w' (fX2_wayOf g a0 a1) := by
  unfold FX2_wayOf at hF
  unfold fX2_wayOf
  replace hF := okb_some hF
  obtain ⟨h0, hF⟩ := hF
  replace h0 := P.cls h0
  refine GR.ok (P.rO h0 (by decide)) ?_
  by_cases c1 : a1 < 0
  · replace hF := ite_t c1 hF
    refine GR.t c1 ?_
    obtain ⟨f1, f2⟩ := finW hF
    subst f1
    subst f2
    exact GR.ret P
  replace hF := ite_f c1 hF
  refine GR.f c1 ?_
  by_cases c2 : (8 : Int32) ≤ a1
  · replace hF := ite_t c2 hF
    refine GR.t c2 ?_
    obtain ⟨f1, f2⟩ := finW hF
    subst f1
    subst f2
    exact GR.ret P
  replace hF := ite_f c2 hF
  refine GR.f c2 ?_
  refine GR.bind (P.getRa (k := 5) h0 (by decide) (by decide) (by decide)) ?_
  replace hF := okb_some hF
  obtain ⟨h3, hF⟩ := hF
  refine GR.bind (P.dI (k := 5) (n := a1.toNatClampNeg) h0 (by decide) (by decide) (by decide) (by decide) h3 rfl) ?_
  obtain ⟨f1, f2⟩ := finW hF
  subst f1
  subst f2
  exact GR.ret P
def FX2_opsOf (w : HS) (a0 : Nat) (a1 : Int32) : Option (Int32 × HS) :=
  okb (hc w a0 == 2) (if a1 < 0 then (some ((0 : Int32), w)) else
  (if (8 : Int32) ≤ a1 then (some ((0 : Int32), w)) else
  (okb (inb a1 8) (some ((ha w a0 6 a1.toNatClampNeg), w)))))
set_option maxHeartbeats 4000000 in
set_option maxRecDepth 100000 in
theorem rX2_opsOf {ar : Nat → Nat → Nat} {c0 : Nat → Nat} {sz : Nat} {g : PH} {w w' : HS} {a0 : Nat} {a1 : Int32} {r : Int32} (P : Rel ar c0 sz g w) (hF : FX2_opsOf w a0 a1 = some (r, w')) : GR ar c0 sz r w' (fX2_opsOf g a0 a1) := by
  unfold FX2_opsOf at hF
  unfold fX2_opsOf
  replace hF := okb_some hF
  obtain ⟨h0, hF⟩ := hF
  replace h0 := P.cls h0
  refine GR.ok (P.rO h0 (by decide)) ?_
  by_cases c1 : a1 < 0
  · replace hF := ite_t c1 hF
    refine GR.t c1 ?_
    obtain ⟨f1, f2⟩ := finW hF
    subst f1
    subst f2
    exact GR.ret P
  replace hF := ite_f c1 hF
  refine GR.f c1 ?_
  by_cases c2 : (8 : Int32) ≤ a1
  · replace hF := ite_t c2 hF
    refine GR.t c2 ?_
    obtain ⟨f1, f2⟩ := finW hF
    subst f1
    subst f2
    exact GR.ret P
  replace hF := ite_f c2 hF
  refine GR.f c2 ?_
  refine GR.bind (P.getRa (k := 6) h0 (by decide) (by decide) (by decide)) ?_
  replace hF := okb_some hF
  obtain ⟨h3, hF⟩ := hF
  refine GR.bind (P.dI (k := 6) (n := a1.toNatClampNeg) h0 (by decide) (by decide) (by decide) (by decide) h3 rfl) ?_
  obtain ⟨f1, f2⟩ := finW hF
  subst f1
  subst f2
  exact GR.ret P
def FX2_readsOf (w : HS) (a0 : Nat) (a1 : Int32) : Option (Int32 × HS) :=
  okb (hc w a0 == 2) (if a1 < 0 then (some ((0 : Int32), w)) else
  (if (8 : Int32) ≤ a1 then (some ((0 : Int32), w)) else
  (okb (inb a1 8) (some ((ha w a0 7 a1.toNatClampNeg), w)))))
set_option maxHeartbeats 4000000 in
set_option maxRecDepth 100000 in
theorem rX2_readsOf {ar : Nat → Nat → Nat} {c0 : Nat → Nat} {sz : Nat} {g : PH} {w w' : HS} {a0 : Nat} {a1 : Int32} {r : Int32} (P : Rel ar c0 sz g w) (hF : FX2_readsOf w a0 a1 = some (r, w')) : GR ar c0 sz r w' (fX2_readsOf g a0 a1) := by
  unfold FX2_readsOf at hF
  unfold fX2_readsOf
  replace hF := okb_some hF
  obtain ⟨h0, hF⟩ := hF
  replace h0 := P.cls h0
  refine GR.ok (P.rO h0 (by decide)) ?_
  by_cases c1 : a1 < 0
  · replace hF := ite_t c1 hF
    refine GR.t c1 ?_
    obtain ⟨f1, f2⟩ := finW hF
    subst f1
    subst f2
    exact GR.ret P
  replace hF := ite_f c1 hF
  refine GR.f c1 ?_
  by_cases c2 : (8 : Int32) ≤ a1
  · replace hF := ite_t c2 hF
    refine GR.t c2 ?_
    obtain ⟨f1, f2⟩ := finW hF
    subst f1
    subst f2
    exact GR.ret P
  replace hF := ite_f c2 hF
  refine GR.f c2 ?_
  refine GR.bind (P.getRa (k := 7) h0 (by decide) (by decide) (by decide)) ?_
  replace hF := okb_some hF
  obtain ⟨h3, hF⟩ := hF
  refine GR.bind (P.dI (k := 7) (n := a1.toNatClampNeg) h0 (by decide) (by decide) (by decide) (by decide) h3 rfl) ?_
  obtain ⟨f1, f2⟩ := finW hF
  subst f1
  subst f2
  exact GR.ret P
def FX2_opAt (w : HS) (a0 : Nat) (a1 : Int32) (a2 : Int32) : Option (Int32 × HS) :=
  okb (hc w a0 == 2) (if ((a1 * (6 : Int32)) + a2) < 0 then (some ((0 : Int32), w)) else
  (if (48 : Int32) ≤ ((a1 * (6 : Int32)) + a2) then (some ((0 : Int32), w)) else
  (okb (inb ((a1 * (6 : Int32)) + a2) 48) (some ((ha w a0 8 ((a1 * (6 : Int32)) + a2).toNatClampNeg), w)))))
set_option maxHeartbeats 4000000 in
set_option maxRecDepth 100000 in
theorem rX2_opAt {ar : Nat → Nat → Nat} {c0 : Nat → Nat} {sz : Nat} {g : PH} {w w' : HS} {a0 : Nat} {a1 : Int32} {a2 : Int32} {r : Int32} (P : Rel ar c0 sz g w) (hF : FX2_opAt w a0 a1 a2 = some (r, w')) : GR ar c0 sz r w' (fX2_opAt g a0 a1 a2) := by
  unfold FX2_opAt at hF
  unfold fX2_opAt
  replace hF := okb_some hF
  obtain ⟨h0, hF⟩ := hF
  replace h0 := P.cls h0
  refine GR.ok (P.rO h0 (by decide)) ?_
  by_cases c1 : ((a1 * (6 : Int32)) + a2) < 0
  · replace hF := ite_t c1 hF
    refine GR.t c1 ?_
    obtain ⟨f1, f2⟩ := finW hF
    subst f1
    subst f2
    exact GR.ret P
  replace hF := ite_f c1 hF
  refine GR.f c1 ?_
  refine GR.bind (P.getRa (k := 8) h0 (by decide) (by decide) (by decide)) ?_
  refine GR.bind (P.dN (k := 8) (j := (48 : Int32)) h0 (by decide) (by decide) (by decide) (by decide) (by decide)) ?_
  by_cases c2 : (48 : Int32) ≤ ((a1 * (6 : Int32)) + a2)
  · replace hF := ite_t c2 hF
    refine GR.t c2 ?_
    obtain ⟨f1, f2⟩ := finW hF
    subst f1
    subst f2
    exact GR.ret P
  replace hF := ite_f c2 hF
  refine GR.f c2 ?_
  refine GR.bind (P.getRa (k := 8) h0 (by decide) (by decide) (by decide)) ?_
  replace hF := okb_some hF
  obtain ⟨h3, hF⟩ := hF
  refine GR.bind (P.dI (k := 8) (n := ((a1 * (6 : Int32)) + a2).toNatClampNeg) h0 (by decide) (by decide) (by decide) (by decide) h3 rfl) ?_
  obtain ⟨f1, f2⟩ := finW hF
  subst f1
  subst f2
  exact GR.ret P
def FX2_isDown (w : HS) (a0 : Nat) (a1 : Int32) (a2 : Int32) : Option (Int32 × HS) :=
  okb (hc w a0 == 2) ((FX2_wayOf w a0 a1).bind fun q1 =>
  (if (2 : Int32) ≤ q1.1 then (if ((a2 >>> ((q1.1 - (2 : Int32)) &&& 31)) &&& (1 : Int32)) = (1 : Int32) then (some ((1 : Int32), q1.2)) else
  (some ((0 : Int32), q1.2))) else
  (if q1.1 = (1 : Int32) then (some ((1 : Int32), q1.2)) else
  (some ((0 : Int32), q1.2)))))
set_option maxHeartbeats 4000000 in
set_option maxRecDepth 100000 in
theorem rX2_isDown {ar : Nat → Nat → Nat} {c0 : Nat → Nat} {sz : Nat} {g : PH} {w w' : HS} {a0 : Nat} {a1 : Int32} {a2 : Int32} {r : Int32} (P : Rel ar c0 sz g w) (hF : FX2_isDown w a0 a1 a2 = some (r, w')) : GR ar c0 sz r w' (fX2_isDown g a0 a1 a2) := by
  unfold FX2_isDown at hF
  unfold fX2_isDown
  replace hF := okb_some hF
  obtain ⟨h0, hF⟩ := hF
  replace h0 := P.cls h0
  refine GR.ok (P.rO h0 (by decide)) ?_
  replace hF := ob_some hF
  obtain ⟨q1, h2, hF⟩ := hF
  obtain ⟨g3, e4, P⟩ := rX2_wayOf (r := q1.1) (w' := q1.2) P h2
  refine GR.bind e4 ?_
  by_cases c5 : (2 : Int32) ≤ q1.1
  · replace hF := ite_t c5 hF
    refine GR.t c5 ?_
    by_cases c6 : ((a2 >>> ((q1.1 - (2 : Int32)) &&& 31)) &&& (1 : Int32)) = (1 : Int32)
    · replace hF := ite_t c6 hF
      refine GR.t c6 ?_
      obtain ⟨f1, f2⟩ := finW hF
      subst f1
      subst f2
      exact GR.ret P
    replace hF := ite_f c6 hF
    refine GR.f c6 ?_
    obtain ⟨f1, f2⟩ := finW hF
    subst f1
    subst f2
    exact GR.ret P
  replace hF := ite_f c5 hF
  refine GR.f c5 ?_
  by_cases c7 : q1.1 = (1 : Int32)
  · replace hF := ite_t c7 hF
    refine GR.t c7 ?_
    obtain ⟨f1, f2⟩ := finW hF
    subst f1
    subst f2
    exact GR.ret P
  replace hF := ite_f c7 hF
  refine GR.f c7 ?_
  obtain ⟨f1, f2⟩ := finW hF
  subst f1
  subst f2
  exact GR.ret P
def FX2_choices (w : HS) (a0 : Nat) : Option (Int32 × HS) :=
  okb (hc w a0 == 2) (some (((1 : Int32) <<< ((hi w a0 3) &&& 31)), w))
set_option maxHeartbeats 4000000 in
set_option maxRecDepth 100000 in
theorem rX2_choices {ar : Nat → Nat → Nat} {c0 : Nat → Nat} {sz : Nat} {g : PH} {w w' : HS} {a0 : Nat} {r : Int32} (P : Rel ar c0 sz g w) (hF : FX2_choices w a0 = some (r, w')) : GR ar c0 sz r w' (fX2_choices g a0) := by
  unfold FX2_choices at hF
  unfold fX2_choices
  replace hF := okb_some hF
  obtain ⟨h0, hF⟩ := hF
  replace h0 := P.cls h0
  refine GR.ok (P.rO h0 (by decide)) ?_
  refine GR.bind (P.rI (k := 3) h0 (by decide) (by decide) (by decide)) ?_
  obtain ⟨f1, f2⟩ := finW hF
  subst f1
  subst f2
  exact GR.ret P
