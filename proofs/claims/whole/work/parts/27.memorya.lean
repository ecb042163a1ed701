def FX3_copyFrom (w : HS) (a0 : Nat) (a1 : Nat) : Option (Unit × HS) :=
  okb (hc w a0 == 3) (okb (hc w a1 == 3) (bnd (setI w a0 0 (hi w a1 0)) fun w2 =>
  (bnd (setI w2 a0 1 (hi w2 a1 1)) fun w6 =>
  (bnd (setP w6 a0 2 (hp w6 a1 2)) fun w10 =>
  (bnd (setI w10 a0 3 (hi w10 a1 3)) fun w14 =>
  (bnd (setI w14 a0 4 (hi w14 a1 4)) fun w18 =>
  (bnd (setI w18 a0 5 (hi w18 a1 5)) fun w22 =>
  (bnd (setI w22 a0 6 (hi w22 a1 6)) fun w26 =>
  (bnd (setI w26 a0 7 (hi w26 a1 7)) fun w30 =>
  (bnd (setI w30 a0 8 (hi w30 a1 8)) fun w34 =>
  (bnd (setI w34 a0 9 (hi w34 a1 9)) fun w38 =>
  (bnd (setR w38 a0 10 (va_cpy (ha w38 a1 10) (ha w38 a0 10) 0 0 6)) fun w42 =>
  (bnd (setR w42 a0 11 (va_cpy (ha w42 a1 11) (ha w42 a0 11) 0 0 60)) fun w46 =>
  (some ((), w46)))))))))))))))
set_option maxHeartbeats 4000000 in
set_option maxRecDepth 100000 in
theorem rX3_copyFrom {ar : Nat → Nat → Nat} {c0 : Nat → Nat} {sz : Nat} {g : PH} {w w' : HS} {a0 : Nat} {a1 : Nat} {r : Unit} (P : Rel ar c0 sz g w) (hF : FX3_copyFrom w a0 a1 = some (r, w')) : GR ar c0 sz r w' (fX3_copyFrom g a0 a1) := by
  unfold FX3_copyFrom at hF
  unfold fX3_copyFrom
  replace hF := okb_some hF
  obtain ⟨h0, hF⟩ := hF
  replace h0 := P.cls h0
  refine GR.ok (P.rO h0 (by decide)) ?_
  replace hF := okb_some hF
  obtain ⟨h1, hF⟩ := hF
  replace h1 := P.cls h1
  refine GR.bind (P.rI (k := 0) h1 (by decide) (by decide) (by decide)) ?_
  replace hF := bnd_e hF
  obtain ⟨w2, e3, hF⟩ := hF
  obtain ⟨g4, e5, P⟩ := P.putI (k := 0) h0 (by decide) (by decide) (by decide) e3
  refine GR.bind e5 ?_
  refine GR.bind (P.rI (k := 1) h1 (by decide) (by decide) (by decide)) ?_
  replace hF := bnd_e hF
  obtain ⟨w6, e7, hF⟩ := hF
  obtain ⟨g8, e9, P⟩ := P.putI (k := 1) h0 (by decide) (by decide) (by decide) e7
  refine GR.bind e9 ?_
  refine GR.bind (P.rQ (k := 2) h1 (by decide) (by decide) (by decide)) ?_
  replace hF := bnd_e hF
  obtain ⟨w10, e11, hF⟩ := hF
  obtain ⟨g12, e13, P⟩ := P.putP (k := 2) h0 (by decide) (by decide) (by decide) e11
  refine GR.bind e13 ?_
  refine GR.bind (P.rI (k := 3) h1 (by decide) (by decide) (by decide)) ?_
  replace hF := bnd_e hF
  obtain ⟨w14, e15, hF⟩ := hF
  obtain ⟨g16, e17, P⟩ := P.putI (k := 3) h0 (by decide) (by decide) (by decide) e15
  refine GR.bind e17 ?_
  refine GR.bind (P.rI (k := 4) h1 (by decide) (by decide) (by decide)) ?_
  replace hF := bnd_e hF
  obtain ⟨w18, e19, hF⟩ := hF
  obtain ⟨g20, e21, P⟩ := P.putI (k := 4) h0 (by decide) (by decide) (by decide) e19
  refine GR.bind e21 ?_
  refine GR.bind (P.rI (k := 5) h1 (by decide) (by decide) (by decide)) ?_
  replace hF := bnd_e hF
  obtain ⟨w22, e23, hF⟩ := hF
  obtain ⟨g24, e25, P⟩ := P.putI (k := 5) h0 (by decide) (by decide) (by decide) e23
  refine GR.bind e25 ?_
  refine GR.bind (P.rI (k := 6) h1 (by decide) (by decide) (by decide)) ?_
  replace hF := bnd_e hF
  obtain ⟨w26, e27, hF⟩ := hF
  obtain ⟨g28, e29, P⟩ := P.putI (k := 6) h0 (by decide) (by decide) (by decide) e27
  refine GR.bind e29 ?_
  refine GR.bind (P.rI (k := 7) h1 (by decide) (by decide) (by decide)) ?_
  replace hF := bnd_e hF
  obtain ⟨w30, e31, hF⟩ := hF
  obtain ⟨g32, e33, P⟩ := P.putI (k := 7) h0 (by decide) (by decide) (by decide) e31
  refine GR.bind e33 ?_
  refine GR.bind (P.rI (k := 8) h1 (by decide) (by decide) (by decide)) ?_
  replace hF := bnd_e hF
  obtain ⟨w34, e35, hF⟩ := hF
  obtain ⟨g36, e37, P⟩ := P.putI (k := 8) h0 (by decide) (by decide) (by decide) e35
  refine GR.bind e37 ?_
  refine GR.bind (P.rI (k := 9) h1 (by decide) (by decide) (by decide)) ?_
  replace hF := bnd_e hF
  obtain ⟨w38, e39, hF⟩ := hF
  obtain ⟨g40, e41, P⟩ := P.putI (k := 9) h0 (by decide) (by decide) (by decide) e39
  refine GR.bind e41 ?_
  refine GR.bind (P.getRa (k := 10) h1 (by decide) (by decide) (by decide)) ?_
  refine GR.bind (P.getRa (k := 10) h0 (by decide) (by decide) (by decide)) ?_
  replace hF := bnd_e hF
  obtain ⟨w42, e43, hF⟩ := hF
  obtain ⟨g44, e45, P⟩ := P.sC (k := 10) (m := 10) (sp := 0) (dp := 0) (nn := 6) h1 (by decide) (by decide) (by decide) (by decide) h0 (by decide) (by decide) (by decide) (by decide) (by decide) e43
  refine GR.bind e45 ?_
  refine GR.bind (P.getRa (k := 11) h1 (by decide) (by decide) (by decide)) ?_
  refine GR.bind (P.getRa (k := 11) h0 (by decide) (by decide) (by decide)) ?_
  replace hF := bnd_e hF
  obtain ⟨w46, e47, hF⟩ := hF
  obtain ⟨g48, e49, P⟩ := P.sC (k := 11) (m := 11) (sp := 0) (dp := 0) (nn := 60) h1 (by decide) (by decide) (by decide) (by decide) h0 (by decide) (by decide) (by decide) (by decide) (by decide) e47
  refine GR.bind e49 ?_
  obtain ⟨f1, f2⟩ := finW hF
  subst f1
  subst f2
  exact GR.ret P
def FX3_state_23  (w : HS) (v0 : Nat) (s0 : Int32) : Option (Int32 × HS) :=
  if (hi w v0 4) = (-1 : Int32) then (some (s0, w)) else
  (some ((s0 ||| ((((hi w v0 1) >>> ((hi w v0 4) &&& 31)) &&& (1 : Int32)) <<< ((1 : Int32) &&& 31))), w))
set_option maxHeartbeats 4000000 in
set_option maxRecDepth 100000 in
theorem rX3_state_23 {ar : Nat → Nat → Nat} {c0 : Nat → Nat} {sz : Nat} {r : Int32} {w' : HS}   {g : PH} {w : HS} {v0 : Nat} {s0 : Int32} (h0 : c0 v0 = 3) (P : Rel ar c0 sz g w) (hF : FX3_state_23  w v0 s0 = some (r, w')) : GR ar c0 sz r w' (fX3_state_23  g v0 s0) := by
  unfold FX3_state_23 at hF
  unfold fX3_state_23
  refine GR.bind (P.rI (k := 4) h0 (by decide) (by decide) (by decide)) ?_
  by_cases c1 : (hi w v0 4) = (-1 : Int32)
  · replace hF := ite_t c1 hF
    refine GR.t c1 ?_
    obtain ⟨f1, f2⟩ := finW hF
    subst f1
    subst f2
    exact GR.ret P
  replace hF := ite_f c1 hF
  refine GR.f c1 ?_
  refine GR.bind (P.rI (k := 1) h0 (by decide) (by decide) (by decide)) ?_
  refine GR.bind (P.rI (k := 4) h0 (by decide) (by decide) (by decide)) ?_
  obtain ⟨f1, f2⟩ := finW hF
  subst f1
  subst f2
  exact GR.ret P
def FX3_state (w : HS) (a0 : Nat) : Option (Int32 × HS) :=
  okb (hc w a0 == 3) (if (hi w a0 5) = (-1 : Int32) then (FX3_state_23 w a0 (0 : Int32)) else
  (FX3_state_23 w a0 (((hi w a0 1) >>> ((hi w a0 5) &&& 31)) &&& (1 : Int32))))
set_option maxHeartbeats 4000000 in
set_option maxRecDepth 100000 in
theorem rX3_state {ar : Nat → Nat → Nat} {c0 : Nat → Nat} {sz : Nat} {g : PH} {w w' : HS} {a0 : Nat} {r : Int32} (P : Rel ar c0 sz g w) (hF : FX3_state w a0 = some (r, w')) : GR ar c0 sz r w' (fX3_state g a0) := by
  unfold FX3_state at hF
  unfold fX3_state
  replace hF := okb_some hF
  obtain ⟨h0, hF⟩ := hF
  replace h0 := P.cls h0
  refine GR.ok (P.rO h0 (by decide)) ?_
  refine GR.bind (P.rI (k := 5) h0 (by decide) (by decide) (by decide)) ?_
  by_cases c1 : (hi w a0 5) = (-1 : Int32)
  · replace hF := ite_t c1 hF
    refine GR.t c1 ?_
    exact rX3_state_23  h0 P hF
  replace hF := ite_f c1 hF
  refine GR.f c1 ?_
  refine GR.bind (P.rI (k := 1) h0 (by decide) (by decide) (by decide)) ?_
  refine GR.bind (P.rI (k := 5) h0 (by decide) (by decide) (by decide)) ?_
  exact rX3_state_23  h0 P hF
def FX3_withBit (w : HS) (a0 : Int32) (a1 : Int32) (a2 : Int32) : Option (Int32 × HS) :=
  some (((a0 &&& (((1 : Int32) <<< (a1 &&& 31)) ^^^ (-1 : Int32))) ||| (a2 <<< (a1 &&& 31))), w)
set_option maxHeartbeats 4000000 in
set_option maxRecDepth 100000 in
theorem rX3_withBit {ar : Nat → Nat → Nat} {c0 : Nat → Nat} {sz : Nat} {g : PH} {w w' : HS} {a0 : Int32} {a1 : Int32} {a2 : Int32} {r : Int32} (P : Rel ar c0 sz g w) (hF : FX3_withBit w a0 a1 a2 = some (r, w')) : GR ar c0 sz r w' (fX3_withBit g a0 a1 a2) := by
  unfold FX3_withBit at hF
  unfold fX3_withBit
  obtain ⟨f1, f2⟩ := finW hF
  subst f1
  subst f2
  exact GR.ret P
def FX3_setState_26  (w : HS) (v0 : Nat) (v1 : Int32) : Option (Unit × HS) :=
  if (hi w v0 4) = (-1 : Int32) then (some ((), w)) else
  ((FX3_withBit w (hi w v0 1) (hi w v0 4) ((v1 >>> ((1 : Int32) &&& 31)) &&& (1 : Int32))).bind fun q2 =>
  (bnd (setI q2.2 v0 1 q2.1) fun w6 =>
  (some ((), w6))))
set_option maxHeartbeats 4000000 in
set_option maxRecDepth 100000 in
theorem rX3_setState_26 {ar : Nat → Nat → Nat} {c0 : Nat → Nat} {sz : Nat} {r : Unit} {w' : HS}   {g : PH} {w : HS} {v0 : Nat} {v1 : Int32} (h0 : c0 v0 = 3) (P : Rel ar c0 sz g w) (hF : FX3_setState_26  w v0 v1 = some (r, w')) : GR ar c0 sz r w' (fX3_setState_26  g v0 v1) := by
  unfold FX3_setState_26 at hF
  unfold fX3_setState_26
  refine GR.bind (P.rI (k := 4) h0 (by decide) (by decide) (by decide)) ?_
  by_cases c1 : (hi w v0 4) = (-1 : Int32)
  · replace hF := ite_t c1 hF
    refine GR.t c1 ?_
    obtain ⟨f1, f2⟩ := finW hF
    subst f1
    subst f2
    exact GR.ret P
  replace hF := ite_f c1 hF
  refine GR.f c1 ?_
  refine GR.bind (P.rI (k := 1) h0 (by decide) (by decide) (by decide)) ?_
  refine GR.bind (P.rI (k := 4) h0 (by decide) (by decide) (by decide)) ?_
  replace hF := ob_some hF
  obtain ⟨q2, h3, hF⟩ := hF
  obtain ⟨g4, e5, P⟩ := rX3_withBit (r := q2.1) (w' := q2.2) P h3
  refine GR.bind e5 ?_
  replace hF := bnd_e hF
  obtain ⟨w6, e7, hF⟩ := hF
  obtain ⟨g8, e9, P⟩ := P.putI (k := 1) h0 (by decide) (by decide) (by decide) e7
  refine GR.bind e9 ?_
  obtain ⟨f1, f2⟩ := finW hF
  subst f1
  subst f2
  exact GR.ret P
def FX3_setState (w : HS) (a0 : Nat) (a1 : Int32) : Option (Unit × HS) :=
  okb (hc w a0 == 3) (if (hi w a0 5) = (-1 : Int32) then (FX3_setState_26 w a0 a1) else
  ((FX3_withBit w (hi w a0 1) (hi w a0 5) (a1 &&& (1 : Int32))).bind fun q2 =>
  (bnd (setI q2.2 a0 1 q2.1) fun w6 =>
  (FX3_setState_26 w6 a0 a1))))
set_option maxHeartbeats 4000000 in
set_option maxRecDepth 100000 in
theorem rX3_setState {ar : Nat → Nat → Nat} {c0 : Nat → Nat} {sz : Nat} {g : PH} {w w' : HS} {a0 : Nat} {a1 : Int32} {r : Unit} (P : Rel ar c0 sz g w) (hF : FX3_setState w a0 a1 = some (r, w')) : GR ar c0 sz r w' (fX3_setState g a0 a1) := by
  unfold FX3_setState at hF
  unfold fX3_setState
  replace hF := okb_some hF
  obtain ⟨h0, hF⟩ := hF
  replace h0 := P.cls h0
  refine GR.ok (P.rO h0 (by decide)) ?_
  refine GR.bind (P.rI (k := 5) h0 (by decide) (by decide) (by decide)) ?_
  by_cases c1 : (hi w a0 5) = (-1 : Int32)
  · replace hF := ite_t c1 hF
    refine GR.t c1 ?_
    exact rX3_setState_26  h0 P hF
  replace hF := ite_f c1 hF
  refine GR.f c1 ?_
  refine GR.bind (P.rI (k := 1) h0 (by decide) (by decide) (by decide)) ?_
  refine GR.bind (P.rI (k := 5) h0 (by decide) (by decide) (by decide)) ?_
  replace hF := ob_some hF
  obtain ⟨q2, h3, hF⟩ := hF
  obtain ⟨g4, e5, P⟩ := rX3_withBit (r := q2.1) (w' := q2.2) P h3
  refine GR.bind e5 ?_
  replace hF := bnd_e hF
  obtain ⟨w6, e7, hF⟩ := hF
  obtain ⟨g8, e9, P⟩ := P.putI (k := 1) h0 (by decide) (by decide) (by decide) e7
  refine GR.bind e9 ?_
  exact rX3_setState_26  h0 P hF
def FX3_fill (w : HS) (a0 : Nat) (a1 : Int32) : Option (Unit × HS) :=
  okb (hc w a0 == 3) (bnd (setI w a0 1 a1) fun w1 =>
  ((hp w1 a0 2).elim (some ((), w1)) (fun p5 =>
  (FX3_state w1 a0).bind fun q7 =>
  ((hp w1 a0 2).bind fun p11 =>
  ((FX1_settledFrom q7.2 p11 q7.1).bind fun q13 =>
  ((FX3_setState q13.2 a0 q13.1).bind fun q17 =>
  (some ((), q17.2))))))))
set_option maxHeartbeats 4000000 in
set_option maxRecDepth 100000 in
theorem rX3_fill {ar : Nat → Nat → Nat} {c0 : Nat → Nat} {sz : Nat} {g : PH} {w w' : HS} {a0 : Nat} {a1 : Int32} {r : Unit} (P : Rel ar c0 sz g w) (hF : FX3_fill w a0 a1 = some (r, w')) : GR ar c0 sz r w' (fX3_fill g a0 a1) := by
  unfold FX3_fill at hF
  unfold fX3_fill
  replace hF := okb_some hF
  obtain ⟨h0, hF⟩ := hF
  replace h0 := P.cls h0
  refine GR.ok (P.rO h0 (by decide)) ?_
  replace hF := bnd_e hF
  obtain ⟨w1, e2, hF⟩ := hF
  obtain ⟨g3, e4, P⟩ := P.putI (k := 1) h0 (by decide) (by decide) (by decide) e2
  refine GR.bind e4 ?_
  refine GR.bind (P.rQ (k := 2) h0 (by decide) (by decide) (by decide)) ?_
  by_cases h6 : (hp w1 a0 2) = none
  · replace hF := el_n h6 hF
    refine GR.en h6 ?_
    obtain ⟨f1, f2⟩ := finW hF
    subst f1
    subst f2
    exact GR.ret P
  obtain ⟨p5, h6⟩ := Option.ne_none_iff_exists'.mp h6
  replace hF := el_s h6 hF
  refine GR.es h6 ?_
  refine GR.bind (P.rQ (k := 2) h0 (by decide) (by decide) (by decide)) ?_
  replace hF := ob_some hF
  obtain ⟨q7, h8, hF⟩ := hF
  obtain ⟨g9, e10, P⟩ := rX3_state (r := q7.1) (w' := q7.2) P h8
  refine GR.bind e10 ?_
  replace hF := ob_some hF
  obtain ⟨p11, h12, hF⟩ := hF
  refine GR.bind h12 ?_
  replace hF := ob_some hF
  obtain ⟨q13, h14, hF⟩ := hF
  obtain ⟨g15, e16, P⟩ := rX1_settledFrom (r := q13.1) (w' := q13.2) P h14
  refine GR.bind e16 ?_
  replace hF := ob_some hF
  obtain ⟨q17, h18, hF⟩ := hF
  obtain ⟨g19, e20, P⟩ := rX3_setState (r := q17.1) (w' := q17.2) P h18
  refine GR.bind e20 ?_
  obtain ⟨f1, f2⟩ := finW hF
  subst f1
  subst f2
  exact GR.ret P
def FX3_insert (w : HS) (a0 : Nat) (a1 : Option Nat) (a2 : Int32) (a3 : Int32) (a4 : Int32) : Option (Unit × HS) :=
  okb (hc w a0 == 3) (bnd (setP w a0 2 a1) fun w1 =>
  (bnd (setI w1 a0 3 a2) fun w5 =>
  (bnd (setI w5 a0 4 a3) fun w9 =>
  (bnd (setI w9 a0 5 a4) fun w13 =>
  ((FX3_fill w13 a0 (hi w13 a0 1)).bind fun q17 =>
  (some ((), q17.2)))))))
set_option maxHeartbeats 4000000 in
set_option maxRecDepth 100000 in
theorem rX3_insert {ar : Nat → Nat → Nat} {c0 : Nat → Nat} {sz : Nat} {g : PH} {w w' : HS} {a0 : Nat} {a1 : Option Nat} {a2 : Int32} {a3 : Int32} {a4 : Int32} {r : Unit} (P : Rel ar c0 sz g w) (hF : FX3_insert w a0 a1 a2 a3 a4 = some (r, w')) : GR ar c0 sz r w' (fX3_insert g a0 a1 a2 a3 a4) := by
  unfold FX3_insert at hF
  unfold fX3_insert
  replace hF := okb_some hF
  obtain ⟨h0, hF⟩ := hF
  replace h0 := P.cls h0
  refine GR.ok (P.rO h0 (by decide)) ?_
  replace hF := bnd_e hF
  obtain ⟨w1, e2, hF⟩ := hF
  obtain ⟨g3, e4, P⟩ := P.putP (k := 2) h0 (by decide) (by decide) (by decide) e2
  refine GR.bind e4 ?_
  replace hF := bnd_e hF
  obtain ⟨w5, e6, hF⟩ := hF
  obtain ⟨g7, e8, P⟩ := P.putI (k := 3) h0 (by decide) (by decide) (by decide) e6
  refine GR.bind e8 ?_
  replace hF := bnd_e hF
  obtain ⟨w9, e10, hF⟩ := hF
  obtain ⟨g11, e12, P⟩ := P.putI (k := 4) h0 (by decide) (by decide) (by decide) e10
  refine GR.bind e12 ?_
  replace hF := bnd_e hF
  obtain ⟨w13, e14, hF⟩ := hF
  obtain ⟨g15, e16, P⟩ := P.putI (k := 5) h0 (by decide) (by decide) (by decide) e14
  refine GR.bind e16 ?_
  refine GR.bind (P.rI (k := 1) h0 (by decide) (by decide) (by decide)) ?_
  replace hF := ob_some hF
  obtain ⟨q17, h18, hF⟩ := hF
  obtain ⟨g19, e20, P⟩ := rX3_fill (r := q17.1) (w' := q17.2) P h18
  refine GR.bind e20 ?_
  obtain ⟨f1, f2⟩ := finW hF
  subst f1
  subst f2
  exact GR.ret P
def FX3_begin_16  : Nat → HS → Nat → Int32 → Option (Unit × HS)
  | 0, _, _, _ => none
  | n + 1, w, v0, v2 =>
  if (6 : Int32) ≤ v2 then (bnd (setI w v0 1 (0 : Int32)) fun w2 =>
  (bnd (setI w2 v0 6 (-1 : Int32)) fun w6 =>
  (bnd (setI w6 v0 8 (-1 : Int32)) fun w10 =>
  (bnd (setI w10 v0 9 (0 : Int32)) fun w14 =>
  ((FX3_insert w14 v0 none (-1 : Int32) (-1 : Int32) (-1 : Int32)).bind fun q18 =>
  (some ((), q18.2))))))) else
  (okb (inb v2 6) (bnd (setA w v0 10 v2.toNatClampNeg v2) fun w25 =>
  (FX3_begin_16 n w25 v0 (v2 + (1 : Int32)))))
set_option maxHeartbeats 4000000 in
set_option maxRecDepth 100000 in
theorem rX3_begin_16 {ar : Nat → Nat → Nat} {c0 : Nat → Nat} {sz : Nat} {r : Unit} {w' : HS}   : ∀ (n : Nat) (g : PH) (w : HS) (v0 : Nat) (v2 : Int32), c0 v0 = 3 → Rel ar c0 sz g w → FX3_begin_16  n w v0 v2 = some (r, w') → GR ar c0 sz r w' (fX3_begin_16  n g v0 v2) := by
  intro n
  induction n with
  | zero =>
    intro g w v0 v2 h0 P hF
    rw [FX3_begin_16] at hF
    cases hF
  | succ n ih =>
    intro g w v0 v2 h0 P hF
    rw [FX3_begin_16] at hF
    rw [fX3_begin_16]
    by_cases c1 : (6 : Int32) ≤ v2
    · replace hF := ite_t c1 hF
      refine GR.t c1 ?_
      replace hF := bnd_e hF
      obtain ⟨w2, e3, hF⟩ := hF
      obtain ⟨g4, e5, P⟩ := P.putI (k := 1) h0 (by decide) (by decide) (by decide) e3
      refine GR.bind e5 ?_
      replace hF := bnd_e hF
      obtain ⟨w6, e7, hF⟩ := hF
      obtain ⟨g8, e9, P⟩ := P.putI (k := 6) h0 (by decide) (by decide) (by decide) e7
      refine GR.bind e9 ?_
      replace hF := bnd_e hF
      obtain ⟨w10, e11, hF⟩ := hF
      obtain ⟨g12, e13, P⟩ := P.putI (k := 8) h0 (by decide) (by decide) (by decide) e11
      refine GR.bind e13 ?_
      replace hF := bnd_e hF
      obtain ⟨w14, e15, hF⟩ := hF
      obtain ⟨g16, e17, P⟩ := P.putI (k := 9) h0 (by decide) (by decide) (by decide) e15
      refine GR.bind e17 ?_
      replace hF := ob_some hF
      obtain ⟨q18, h19, hF⟩ := hF
      obtain ⟨g20, e21, P⟩ := rX3_insert (r := q18.1) (w' := q18.2) P h19
      refine GR.bind e21 ?_
      obtain ⟨f1, f2⟩ := finW hF
      subst f1
      subst f2
      exact GR.ret P
    replace hF := ite_f c1 hF
    refine GR.f c1 ?_
    refine GR.bind (P.getRa (k := 10) h0 (by decide) (by decide) (by decide)) ?_
    replace hF := okb_some hF
    obtain ⟨h22, hF⟩ := hF
    replace hF := bnd_e hF
    obtain ⟨w25, e26, hF⟩ := hF
    obtain ⟨g23, e24, P⟩ := P.sI (k := 10) (kd := 0) (j := v2) h0 (by decide) (by decide) (by decide) (by decide) h22 rfl e26
    refine GR.bind e24 ?_
    exact ih _ _ _ _ h0 P hF
def FX3_begin (w : HS) (a0 : Nat) (a1 : Int32) : Option (Unit × HS) :=
  okb (hc w a0 == 3) (bnd (setI w a0 0 (if (2 : Int32) < (if a1 < (6 : Int32) then a1 else (6 : Int32)) then (if a1 < (6 : Int32) then a1 else (6 : Int32)) else (2 : Int32))) fun w1 =>
  (FX3_begin_16 FUEL w1 a0 (0 : Int32)))
set_option maxHeartbeats 4000000 in
set_option maxRecDepth 100000 in
theorem rX3_begin {ar : Nat → Nat → Nat} {c0 : Nat → Nat} {sz : Nat} {g : PH} {w w' : HS} {a0 : Nat} {a1 : Int32} {r : Unit} (P : Rel ar c0 sz g w) (hF : FX3_begin w a0 a1 = some (r, w')) : GR ar c0 sz r w' (fX3_begin g a0 a1) := by
  unfold FX3_begin at hF
  unfold fX3_begin
  replace hF := okb_some hF
  obtain ⟨h0, hF⟩ := hF
  replace h0 := P.cls h0
  refine GR.ok (P.rO h0 (by decide)) ?_
  replace hF := bnd_e hF
  obtain ⟨w1, e2, hF⟩ := hF
  obtain ⟨g3, e4, P⟩ := P.putI (k := 0) h0 (by decide) (by decide) (by decide) e2
  refine GR.bind e4 ?_
  exact rX3_begin_16  _ _ _ _ _ h0 P hF
def FX3_hasCell (w : HS) (a0 : Nat) (a1 : Int32) : Option (Int32 × HS) :=
  okb (hc w a0 == 3) (if a1 < 0 then (some ((0 : Int32), w)) else
  (if (hi w a0 0) ≤ a1 then (some ((0 : Int32), w)) else
  (some ((1 : Int32), w))))
set_option maxHeartbeats 4000000 in
set_option maxRecDepth 100000 in
theorem rX3_hasCell {ar : Nat → Nat → Nat} {c0 : Nat → Nat} {sz : Nat} {g : PH} {w w' : HS} {a0 : Nat} {a1 : Int32} {r : Int32} (P : Rel ar c0 sz g w) (hF : FX3_hasCell w a0 a1 = some (r, w')) : GR ar c0 sz r w' (fX3_hasCell g a0 a1) := by
  unfold FX3_hasCell at hF
  unfold fX3_hasCell
  replace hF := okb_some hF
  obtain ⟨h0, hF⟩ := hF
  replace h0 := P.cls h0
  refine GR.ok (P.rO h0 (by decide)) ?_
  by_cases c1 : a1 < 0
  · replace hF := ite_t c1 hF
    refine GR.t c1 ?_
    obtain ⟨f1, f2⟩ := finW hF
    subst f1
    subst f2
    exact GR.ret P
  replace hF := ite_f c1 hF
  refine GR.f c1 ?_
  refine GR.bind (P.rI (k := 0) h0 (by decide) (by decide) (by decide)) ?_
  by_cases c2 : (hi w a0 0) ≤ a1
  · replace hF := ite_t c2 hF
    refine GR.t c2 ?_
    obtain ⟨f1, f2⟩ := finW hF
    subst f1
    subst f2
    exact GR.ret P
  replace hF := ite_f c2 hF
  refine GR.f c2 ?_
  obtain ⟨f1, f2⟩ := finW hF
  subst f1
  subst f2
  exact GR.ret P
def FX3_cellOf (w : HS) (a0 : Nat) (a1 : Int32) : Option (Int32 × HS) :=
  okb (hc w a0 == 3) (if a1 < 0 then (some ((-1 : Int32), w)) else
  (if (6 : Int32) ≤ a1 then (some ((-1 : Int32), w)) else
  (okb (inb a1 6) (some ((ha w a0 10 a1.toNatClampNeg), w)))))
set_option maxHeartbeats 4000000 in
set_option maxRecDepth 100000 in
theorem rX3_cellOf {ar : Nat → Nat → Nat} {c0 : Nat → Nat} {sz : Nat} {g : PH} {w w' : HS} {a0 : Nat} {a1 : Int32} {r : Int32} (P : Rel ar c0 sz g w) (hF : FX3_cellOf w a0 a1 = some (r, w')) : GR ar c0 sz r w' (fX3_cellOf g a0 a1) := by
  unfold FX3_cellOf at hF
  unfold fX3_cellOf
  replace hF := okb_some hF
  obtain ⟨h0, hF⟩ := hF
  replace h0 := P.cls h0
  refine GR.ok (P.rO h0 (by decide)) ?_
  by_cases c1 : a1 < 0
  · replace hF := ite_t c1 hF
    refine GR.t c1 ?_
    obtain ⟨f1, f2⟩ := finW hF
    subst f1
    subst f2
    exact GR.ret P
  replace hF := ite_f c1 hF
  refine GR.f c1 ?_
  by_cases c2 : (6 : Int32) ≤ a1
  · replace hF := ite_t c2 hF
    refine GR.t c2 ?_
    obtain ⟨f1, f2⟩ := finW hF
    subst f1
    subst f2
    exact GR.ret P
  replace hF := ite_f c2 hF
  refine GR.f c2 ?_
  refine GR.bind (P.getRa (k := 10) h0 (by decide) (by decide) (by decide)) ?_
  replace hF := okb_some hF
  obtain ⟨h3, hF⟩ := hF
  refine GR.bind (P.dI (k := 10) (n := a1.toNatClampNeg) h0 (by decide) (by decide) (by decide) (by decide) h3 rfl) ?_
  obtain ⟨f1, f2⟩ := finW hF
  subst f1
  subst f2
  exact GR.ret P
def FX3_addressOf_2  : Nat → HS → Nat → Int32 → Int32 → Option (Int32 × HS)
  | 0, _, _, _, _ => none
  | n + 1, w, v0, v1, v2 =>
  if (6 : Int32) ≤ v2 then (some ((-1 : Int32), w)) else
  (okb (inb v2 6) (if (ha w v0 10 v2.toNatClampNeg) = v1 then (some (v2, w)) else
  (FX3_addressOf_2 n w v0 v1 (v2 + (1 : Int32)))))
set_option maxHeartbeats 4000000 in
set_option maxRecDepth 100000 in
theorem rX3_addressOf_2 {ar : Nat → Nat → Nat} {c0 : Nat → Nat} {sz : Nat} {r : Int32} {w' : HS}   : ∀ (n : Nat) (g : PH) (w : HS) (v0 : Nat) (v1 : Int32) (v2 : Int32), c0 v0 = 3 → Rel ar c0 sz g w → FX3_addressOf_2  n w v0 v1 v2 = some (r, w') → GR ar c0 sz r w' (fX3_addressOf_2  n g v0 v1 v2) := by
  intro n
  induction n with
  | zero =>
    intro g w v0 v1 v2 h0 P hF
    rw [FX3_addressOf_2] at hF
    cases hF
  | succ n ih =>
    intro g w v0 v1 v2 h0 P hF
    rw [FX3_addressOf_2] at hF
    rw [fX3_addressOf_2]
    by_cases c1 : (6 : Int32) ≤ v2
    · replace hF := ite_t c1 hF
      refine GR.t c1 ?_
      obtain ⟨f1, f2⟩ := finW hF
      subst f1
      subst f2
      exact GR.ret P
    replace hF := ite_f c1 hF
    refine GR.f c1 ?_
    refine GR.bind (P.getRa (k := 10) h0 (by decide) (by decide) (by decide)) ?_
    replace hF := okb_some hF
    obtain ⟨h2, hF⟩ := hF
    refine GR.bind (P.dI (k := 10) (n := v2.toNatClampNeg) h0 (by decide) (by decide) (by decide) (by decide) h2 rfl) ?_
    by_cases c3 : (ha w v0 10 v2.toNatClampNeg) = v1
    · replace hF := ite_t c3 hF
      refine GR.t c3 ?_
      obtain ⟨f1, f2⟩ := finW hF
      subst f1
      subst f2
      exact GR.ret P
    replace hF := ite_f c3 hF
    refine GR.f c3 ?_
    exact ih _ _ _ _ _ h0 P hF
def FX3_addressOf (w : HS) (a0 : Nat) (a1 : Int32) : Option (Int32 × HS) :=
  okb (hc w a0 == 3) (FX3_addressOf_2 FUEL w a0 a1 (0 : Int32))
set_option maxHeartbeats 4000000 in
set_option maxRecDepth 100000 in
theorem rX3_addressOf {ar : Nat → Nat → Nat} {c0 : Nat → Nat} {sz : Nat} {g : PH} {w w' : HS} {a0 : Nat} {a1 : Int32} {r : Int32} (P : Rel ar c0 sz g w) (hF : FX3_addressOf w a0 a1 = some (r, w')) : GR ar c0 sz r w' (fX3_addressOf g a0 a1) := by
  unfold FX3_addressOf at hF
  unfold fX3_addressOf
  replace hF := okb_some hF
  obtain ⟨h0, hF⟩ := hF
  replace h0 := P.cls h0
  refine GR.ok (P.rO h0 (by decide)) ?_
  exact rX3_addressOf_2  _ _ _ _ _ _ h0 P hF
def FX3_exchange (w : HS) (a0 : Nat) (a1 : Int32) (a2 : Int32) : Option (Unit × HS) :=
  okb (hc w a0 == 3) ((FX3_hasCell w a0 a1).bind fun q1 =>
  (if q1.1 = 0 then (some ((), q1.2)) else
  ((FX3_hasCell q1.2 a0 a2).bind fun q6 =>
  (if q6.1 = 0 then (some ((), q6.2)) else
  (okb (inb a1 6) (okb (inb a2 6) (okb (inb a1 6) (bnd (setA q6.2 a0 10 a1.toNatClampNeg (ha q6.2 a0 10 a2.toNatClampNeg)) fun w16 =>
  (okb (inb a2 6) (bnd (setA w16 a0 10 a2.toNatClampNeg (ha q6.2 a0 10 a1.toNatClampNeg)) fun w21 =>
  (some ((), w21))))))))))))
set_option maxHeartbeats 4000000 in
set_option maxRecDepth 100000 in
theorem rX3_exchange {ar : Nat → Nat → Nat} {c0 : Nat → Nat} {sz : Nat} {g : PH} {w w' : HS} {a0 : Nat} {a1 : Int32} {a2 : Int32} {r : Unit} (P : Rel ar c0 sz g w) (hF : FX3_exchange w a0 a1 a2 = some (r, w')) : GR ar c0 sz r w' (fX3_exchange g a0 a1 a2) := by
  unfold FX3_exchange at hF
  unfold fX3_exchange
  replace hF := okb_some hF
  obtain ⟨h0, hF⟩ := hF
  replace h0 := P.cls h0
  refine GR.ok (P.rO h0 (by decide)) ?_
  replace hF := ob_some hF
  obtain ⟨q1, h2, hF⟩ := hF
  obtain ⟨g3, e4, P⟩ := rX3_hasCell (r := q1.1) (w' := q1.2) P h2
  refine GR.bind e4 ?_
  by_cases c5 : q1.1 = 0
  · replace hF := ite_t c5 hF
    refine GR.t c5 ?_
    obtain ⟨f1, f2⟩ := finW hF
    subst f1
    subst f2
    exact GR.ret P
  replace hF := ite_f c5 hF
  refine GR.f c5 ?_
  replace hF := ob_some hF
  obtain ⟨q6, h7, hF⟩ := hF
  obtain ⟨g8, e9, P⟩ := rX3_hasCell (r := q6.1) (w' := q6.2) P h7
  refine GR.bind e9 ?_
  by_cases c10 : q6.1 = 0
  · replace hF := ite_t c10 hF
    refine GR.t c10 ?_
    obtain ⟨f1, f2⟩ := finW hF
    subst f1
    subst f2
    exact GR.ret P
  replace hF := ite_f c10 hF
  refine GR.f c10 ?_
  refine GR.bind (P.getRa (k := 10) h0 (by decide) (by decide) (by decide)) ?_
  replace hF := okb_some hF
  obtain ⟨h11, hF⟩ := hF
  refine GR.bind (P.dI (k := 10) (n := a1.toNatClampNeg) h0 (by decide) (by decide) (by decide) (by decide) h11 rfl) ?_
  refine GR.bind (P.getRa (k := 10) h0 (by decide) (by decide) (by decide)) ?_
  refine GR.bind (P.getRa (k := 10) h0 (by decide) (by decide) (by decide)) ?_
  replace hF := okb_some hF
  obtain ⟨h12, hF⟩ := hF
  refine GR.bind (P.dI (k := 10) (n := a2.toNatClampNeg) h0 (by decide) (by decide) (by decide) (by decide) h12 rfl) ?_
  replace hF := okb_some hF
  obtain ⟨h13, hF⟩ := hF
  replace hF := bnd_e hF
  obtain ⟨w16, e17, hF⟩ := hF
  obtain ⟨g14, e15, P⟩ := P.sI (k := 10) (kd := 0) (j := a1) h0 (by decide) (by decide) (by decide) (by decide) h13 rfl e17
  refine GR.bind e15 ?_
  refine GR.bind (P.getRa (k := 10) h0 (by decide) (by decide) (by decide)) ?_
  replace hF := okb_some hF
  obtain ⟨h18, hF⟩ := hF
  replace hF := bnd_e hF
  obtain ⟨w21, e22, hF⟩ := hF
  obtain ⟨g19, e20, P⟩ := P.sI (k := 10) (kd := 0) (j := a2) h0 (by decide) (by decide) (by decide) (by decide) h18 rfl e22
  refine GR.bind e20 ?_
  obtain ⟨f1, f2⟩ := finW hF
  subst f1
  subst f2
  exact GR.ret P
def FX3_operate_53  (w : HS) (v0 : Nat) (v2 : Int32) (s0 : Int32) (s1 : Option Nat) : Option (Int32 × HS) :=
  (FX3_state w v0).bind fun q1 =>
  (s1.bind fun p5 =>
  ((FX1_outcomeOf q1.2 p5 s0 v2 q1.1).bind fun q7 =>
  ((FX3_setState q7.2 v0 (q7.1 &&& (3 : Int32))).bind fun q11 =>
  (some ((q7.1 >>> ((2 : Int32) &&& 31)), q11.2)))))
set_option maxHeartbeats 4000000 in
set_option maxRecDepth 100000 in
theorem rX3_operate_53 {ar : Nat → Nat → Nat} {c0 : Nat → Nat} {sz : Nat} {r : Int32} {w' : HS}   {g : PH} {w : HS} {v0 : Nat} {v2 : Int32} {s0 : Int32} {s1 : Option Nat} (h0 : c0 v0 = 3) (P : Rel ar c0 sz g w) (hF : FX3_operate_53  w v0 v2 s0 s1 = some (r, w')) : GR ar c0 sz r w' (fX3_operate_53  g v0 v2 s0 s1) := by
  unfold FX3_operate_53 at hF
  unfold fX3_operate_53
  replace hF := ob_some hF
  obtain ⟨q1, h2, hF⟩ := hF
  obtain ⟨g3, e4, P⟩ := rX3_state (r := q1.1) (w' := q1.2) P h2
  refine GR.bind e4 ?_
  replace hF := ob_some hF
  obtain ⟨p5, h6, hF⟩ := hF
  refine GR.bind h6 ?_
  replace hF := ob_some hF
  obtain ⟨q7, h8, hF⟩ := hF
  obtain ⟨g9, e10, P⟩ := rX1_outcomeOf (r := q7.1) (w' := q7.2) P h8
  refine GR.bind e10 ?_
  replace hF := ob_some hF
  obtain ⟨q11, h12, hF⟩ := hF
  obtain ⟨g13, e14, P⟩ := rX3_setState (r := q11.1) (w' := q11.2) P h12
  refine GR.bind e14 ?_
  obtain ⟨f1, f2⟩ := finW hF
  subst f1
  subst f2
  exact GR.ret P
def FX3_operate_36  (w : HS) (v0 : Nat) (v2 : Int32) (v3 : Int32) : Option (Int32 × HS) :=
  if v3 = (hi w v0 5) then (FX3_operate_53 w v0 v2 (0 : Int32) (hp w v0 2)) else
  (FX3_operate_53 w v0 v2 (1 : Int32) (hp w v0 2))
set_option maxHeartbeats 4000000 in
set_option maxRecDepth 100000 in
theorem rX3_operate_36 {ar : Nat → Nat → Nat} {c0 : Nat → Nat} {sz : Nat} {r : Int32} {w' : HS}   {g : PH} {w : HS} {v0 : Nat} {v2 : Int32} {v3 : Int32} (h0 : c0 v0 = 3) (P : Rel ar c0 sz g w) (hF : FX3_operate_36  w v0 v2 v3 = some (r, w')) : GR ar c0 sz r w' (fX3_operate_36  g v0 v2 v3) := by
  unfold FX3_operate_36 at hF
  unfold fX3_operate_36
  refine GR.bind (P.rQ (k := 2) h0 (by decide) (by decide) (by decide)) ?_
  refine GR.bind (P.rI (k := 5) h0 (by decide) (by decide) (by decide)) ?_
  by_cases c1 : v3 = (hi w v0 5)
  · replace hF := ite_t c1 hF
    refine GR.t c1 ?_
    exact rX3_operate_53  h0 P hF
  replace hF := ite_f c1 hF
  refine GR.f c1 ?_
  exact rX3_operate_53  h0 P hF
def FX3_operate_76  (w : HS) (v0 : Nat) (v2 : Int32) (v3 : Int32) : Option (Int32 × HS) :=
  if v2 = 0 then (some ((((hi w v0 1) >>> (v3 &&& 31)) &&& (1 : Int32)), w)) else
  ((FX3_withBit w (hi w v0 1) v3 (v2 - (1 : Int32))).bind fun q2 =>
  (bnd (setI q2.2 v0 1 q2.1) fun w6 =>
  (some ((0 : Int32), w6))))
set_option maxHeartbeats 4000000 in
set_option maxRecDepth 100000 in
theorem rX3_operate_76 {ar : Nat → Nat → Nat} {c0 : Nat → Nat} {sz : Nat} {r : Int32} {w' : HS}   {g : PH} {w : HS} {v0 : Nat} {v2 : Int32} {v3 : Int32} (h0 : c0 v0 = 3) (P : Rel ar c0 sz g w) (hF : FX3_operate_76  w v0 v2 v3 = some (r, w')) : GR ar c0 sz r w' (fX3_operate_76  g v0 v2 v3) := by
  unfold FX3_operate_76 at hF
  unfold fX3_operate_76
  by_cases c1 : v2 = 0
  · replace hF := ite_t c1 hF
    refine GR.t c1 ?_
    refine GR.bind (P.rI (k := 1) h0 (by decide) (by decide) (by decide)) ?_
    obtain ⟨f1, f2⟩ := finW hF
    subst f1
    subst f2
    exact GR.ret P
  replace hF := ite_f c1 hF
  refine GR.f c1 ?_
  refine GR.bind (P.rI (k := 1) h0 (by decide) (by decide) (by decide)) ?_
  replace hF := ob_some hF
  obtain ⟨q2, h3, hF⟩ := hF
  obtain ⟨g4, e5, P⟩ := rX3_withBit (r := q2.1) (w' := q2.2) P h3
  refine GR.bind e5 ?_
  replace hF := bnd_e hF
  obtain ⟨w6, e7, hF⟩ := hF
  obtain ⟨g8, e9, P⟩ := P.putI (k := 1) h0 (by decide) (by decide) (by decide) e7
  refine GR.bind e9 ?_
  obtain ⟨f1, f2⟩ := finW hF
  subst f1
  subst f2
  exact GR.ret P
def FX3_operate (w : HS) (a0 : Nat) (a1 : Int32) (a2 : Int32) : Option (Int32 × HS) :=
  okb (hc w a0 == 3) ((FX3_cellOf w a0 a1).bind fun q1 =>
  (if q1.1 = (-1 : Int32) then (some ((0 : Int32), q1.2)) else
  ((hp q1.2 a0 2).elim (FX3_operate_76 q1.2 a0 a2 q1.1) (fun p6 =>
  if q1.1 = (hi q1.2 a0 5) then (FX3_operate_36 q1.2 a0 a2 q1.1) else
  (if q1.1 = (hi q1.2 a0 4) then (FX3_operate_36 q1.2 a0 a2 q1.1) else
  (FX3_operate_76 q1.2 a0 a2 q1.1))))))
set_option maxHeartbeats 4000000 in
set_option maxRecDepth 100000 in
theorem rX3_operate {ar : Nat → Nat → Nat} {c0 : Nat → Nat} {sz : Nat} {g : PH} {w w' : HS} {a0 : Nat} {a1 : Int32} {a2 : Int32} {r : Int32} (P : Rel ar c0 sz g w) (hF : FX3_operate w a0 a1 a2 = some (r, w')) : GR ar c0 sz r w' (fX3_operate g a0 a1 a2) := by
  unfold FX3_operate at hF
  unfold fX3_operate
  replace hF := okb_some hF
  obtain ⟨h0, hF⟩ := hF
  replace h0 := P.cls h0
  refine GR.ok (P.rO h0 (by decide)) ?_
  replace hF := ob_some hF
  obtain ⟨q1, h2, hF⟩ := hF
  obtain ⟨g3, e4, P⟩ := rX3_cellOf (r := q1.1) (w' := q1.2) P h2
  refine GR.bind e4 ?_
  by_cases c5 : q1.1 = (-1 : Int32)
  · replace hF := ite_t c5 hF
    refine GR.t c5 ?_
    obtain ⟨f1, f2⟩ := finW hF
    subst f1
    subst f2
    exact GR.ret P
  replace hF := ite_f c5 hF
  refine GR.f c5 ?_
  refine GR.bind (P.rQ (k := 2) h0 (by decide) (by decide) (by decide)) ?_
  by_cases h7 : (hp q1.2 a0 2) = none
  · replace hF := el_n h7 hF
    refine GR.en h7 ?_
    exact rX3_operate_76  h0 P hF
  obtain ⟨p6, h7⟩ := Option.ne_none_iff_exists'.mp h7
  replace hF := el_s h7 hF
  refine GR.es h7 ?_
  refine GR.bind (P.rI (k := 5) h0 (by decide) (by decide) (by decide)) ?_
  by_cases c8 : q1.1 = (hi q1.2 a0 5)
  · replace hF := ite_t c8 hF
    refine GR.t c8 ?_
    exact rX3_operate_36  h0 P hF
  replace hF := ite_f c8 hF
  refine GR.f c8 ?_
  refine GR.bind (P.rI (k := 4) h0 (by decide) (by decide) (by decide)) ?_
  by_cases c9 : q1.1 = (hi q1.2 a0 4)
  · replace hF := ite_t c9 hF
    refine GR.t c9 ?_
    exact rX3_operate_36  h0 P hF
  replace hF := ite_f c9 hF
  refine GR.f c9 ?_
  exact rX3_operate_76  h0 P hF
def FX3_note (w : HS) (a0 : Nat) (a1 : Int32) (a2 : Int32) : Option (Unit × HS) :=
  okb (hc w a0 == 3) (if (60 : Int32) ≤ (hi w a0 9) then (bnd (setI w a0 8 ((hi w a0 8) + (1 : Int32))) fun w2 =>
  (some ((), w2))) else
  (okb (inb (hi w a0 9) 60) (bnd (setA w a0 11 (hi w a0 9).toNatClampNeg (((8 : Int32) * a1) + a2)) fun w9 =>
  (bnd (setI w9 a0 9 ((hi w9 a0 9) + (1 : Int32))) fun w11 =>
  (bnd (setI w11 a0 8 ((hi w11 a0 8) + (1 : Int32))) fun w15 =>
  (some ((), w15)))))))
set_option maxHeartbeats 4000000 in
set_option maxRecDepth 100000 in
theorem rX3_note {ar : Nat → Nat → Nat} {c0 : Nat → Nat} {sz : Nat} {g : PH} {w w' : HS} {a0 : Nat} {a1 : Int32} {a2 : Int32} {r : Unit} (P : Rel ar c0 sz g w) (hF : FX3_note w a0 a1 a2 = some (r, w')) : GR ar c0 sz r w' (fX3_note g a0 a1 a2) := by
  unfold FX3_note at hF
  unfold fX3_note
  replace hF := okb_some hF
  obtain ⟨h0, hF⟩ := hF
  replace h0 := P.cls h0
  refine GR.ok (P.rO h0 (by decide)) ?_
  refine GR.bind (P.rI (k := 9) h0 (by decide) (by decide) (by decide)) ?_
  by_cases c1 : (60 : Int32) ≤ (hi w a0 9)
  · replace hF := ite_t c1 hF
    refine GR.t c1 ?_
    refine GR.bind (P.rI (k := 8) h0 (by decide) (by decide) (by decide)) ?_
    replace hF := bnd_e hF
    obtain ⟨w2, e3, hF⟩ := hF
    obtain ⟨g4, e5, P⟩ := P.putI (k := 8) h0 (by decide) (by decide) (by decide) e3
    refine GR.bind e5 ?_
    obtain ⟨f1, f2⟩ := finW hF
    subst f1
    subst f2
    exact GR.ret P
  replace hF := ite_f c1 hF
  refine GR.f c1 ?_
  refine GR.bind (P.getRa (k := 11) h0 (by decide) (by decide) (by decide)) ?_
  refine GR.bind (P.rI (k := 9) h0 (by decide) (by decide) (by decide)) ?_
  replace hF := okb_some hF
  obtain ⟨h6, hF⟩ := hF
  replace hF := bnd_e hF
  obtain ⟨w9, e10, hF⟩ := hF
  obtain ⟨g7, e8, P⟩ := P.sI (k := 11) (kd := 0) (j := (hi w a0 9)) h0 (by decide) (by decide) (by decide) (by decide) h6 rfl e10
  refine GR.bind e8 ?_
  refine GR.bind (P.rI (k := 9) h0 (by decide) (by decide) (by decide)) ?_
  replace hF := bnd_e hF
  obtain ⟨w11, e12, hF⟩ := hF
  obtain ⟨g13, e14, P⟩ := P.putI (k := 9) h0 (by decide) (by decide) (by decide) e12
  refine GR.bind e14 ?_
  refine GR.bind (P.rI (k := 8) h0 (by decide) (by decide) (by decide)) ?_
  replace hF := bnd_e hF
  obtain ⟨w15, e16, hF⟩ := hF
  obtain ⟨g17, e18, P⟩ := P.putI (k := 8) h0 (by decide) (by decide) (by decide) e16
  refine GR.bind e18 ?_
  obtain ⟨f1, f2⟩ := finW hF
  subst f1
  subst f2
  exact GR.ret P
def FX3_visit_73 (k7 : HS → Nat → Nat → Int32 → Int32 → Int32 → Int32 → Option (Unit × HS)) (w : HS) (v0 : Nat) (v1 : Nat) (v2 : Int32) (v3 : Int32) (v5 : Int32) (v6 : Int32) : Option (Unit × HS) :=
  k7 w v0 v1 v2 v3 v5 (v6 + (1 : Int32))
set_option maxHeartbeats 4000000 in
set_option maxRecDepth 100000 in
theorem rX3_visit_73 {ar : Nat → Nat → Nat} {c0 : Nat → Nat} {sz : Nat} {r : Unit} {w' : HS} {k7 : HS → Nat → Nat → Int32 → Int32 → Int32 → Int32 → Option (Unit × HS)} {j7 : PH → Nat → Nat → Int32 → Int32 → Int32 → Int32 → Option (Unit × PH)} (hk7 : ∀ (g : PH) (w : HS) (v0 : Nat) (v1 : Nat) (v2 : Int32) (v3 : Int32) (v5 : Int32) (v6 : Int32), c0 v0 = 3 → Rel ar c0 sz g w → k7 w v0 v1 v2 v3 v5 v6 = some (r, w') → GR ar c0 sz r w' (j7 g v0 v1 v2 v3 v5 v6)) {g : PH} {w : HS} {v0 : Nat} {v1 : Nat} {v2 : Int32} {v3 : Int32} {v5 : Int32} {v6 : Int32} (h0 : c0 v0 = 3) (P : Rel ar c0 sz g w) (hF : FX3_visit_73 k7 w v0 v1 v2 v3 v5 v6 = some (r, w')) : GR ar c0 sz r w' (fX3_visit_73 j7 g v0 v1 v2 v3 v5 v6) := by
  unfold FX3_visit_73 at hF
  unfold fX3_visit_73
  exact hk7 _ _ _ _ _ _ _ _ h0 P hF
def FX3_visit_70 (k7 : HS → Nat → Nat → Int32 → Int32 → Int32 → Int32 → Option (Unit × HS)) (w : HS) (v0 : Nat) (v1 : Nat) (v2 : Int32) (v3 : Int32) (v5 : Int32) (v6 : Int32) : Option (Unit × HS) :=
  FX3_visit_73 (k7) w v0 v1 v2 v3 (v5 + (1 : Int32)) v6
set_option maxHeartbeats 4000000 in
set_option maxRecDepth 100000 in
theorem rX3_visit_70 {ar : Nat → Nat → Nat} {c0 : Nat → Nat} {sz : Nat} {r : Unit} {w' : HS} {k7 : HS → Nat → Nat → Int32 → Int32 → Int32 → Int32 → Option (Unit × HS)} {j7 : PH → Nat → Nat → Int32 → Int32 → Int32 → Int32 → Option (Unit × PH)} (hk7 : ∀ (g : PH) (w : HS) (v0 : Nat) (v1 : Nat) (v2 : Int32) (v3 : Int32) (v5 : Int32) (v6 : Int32), c0 v0 = 3 → Rel ar c0 sz g w → k7 w v0 v1 v2 v3 v5 v6 = some (r, w') → GR ar c0 sz r w' (j7 g v0 v1 v2 v3 v5 v6)) {g : PH} {w : HS} {v0 : Nat} {v1 : Nat} {v2 : Int32} {v3 : Int32} {v5 : Int32} {v6 : Int32} (h0 : c0 v0 = 3) (P : Rel ar c0 sz g w) (hF : FX3_visit_70 k7 w v0 v1 v2 v3 v5 v6 = some (r, w')) : GR ar c0 sz r w' (fX3_visit_70 j7 g v0 v1 v2 v3 v5 v6) := by
  unfold FX3_visit_70 at hF
  unfold fX3_visit_70
  exact rX3_visit_73 hk7 h0 P hF
def FX3_visit_40 (k7 : HS → Nat → Nat → Int32 → Int32 → Int32 → Int32 → Option (Unit × HS)) (w : HS) (v0 : Nat) (v1 : Nat) (v2 : Int32) (v3 : Int32) (v5 : Int32) (v6 : Int32) (v7 : Int32) (s0 : Int32) : Option (Unit × HS) :=
  (FX3_operate w v0 v3 s0).bind fun q1 =>
  (if s0 = 0 then (if q1.1 = v7 then (FX3_visit_70 (k7) q1.2 v0 v1 v2 v3 v5 v6) else
  ((FX3_note q1.2 v0 v5 v3).bind fun q7 =>
  (FX3_visit_70 (k7) q7.2 v0 v1 v2 v3 v5 v6))) else
  (FX3_visit_73 (k7) q1.2 v0 v1 v2 v3 v5 v6))
set_option maxHeartbeats 4000000 in
set_option maxRecDepth 100000 in
theorem rX3_visit_40 {ar : Nat → Nat → Nat} {c0 : Nat → Nat} {sz : Nat} {r : Unit} {w' : HS} {k7 : HS → Nat → Nat → Int32 → Int32 → Int32 → Int32 → Option (Unit × HS)} {j7 : PH → Nat → Nat → Int32 → Int32 → Int32 → Int32 → Option (Unit × PH)} (hk7 : ∀ (g : PH) (w : HS) (v0 : Nat) (v1 : Nat) (v2 : Int32) (v3 : Int32) (v5 : Int32) (v6 : Int32), c0 v0 = 3 → Rel ar c0 sz g w → k7 w v0 v1 v2 v3 v5 v6 = some (r, w') → GR ar c0 sz r w' (j7 g v0 v1 v2 v3 v5 v6)) {g : PH} {w : HS} {v0 : Nat} {v1 : Nat} {v2 : Int32} {v3 : Int32} {v5 : Int32} {v6 : Int32} {v7 : Int32} {s0 : Int32} (h0 : c0 v0 = 3) (P : Rel ar c0 sz g w) (hF : FX3_visit_40 k7 w v0 v1 v2 v3 v5 v6 v7 s0 = some (r, w')) : GR ar c0 sz r w' (fX3_visit_40 j7 g v0 v1 v2 v3 v5 v6 v7 s0) := by
  unfold FX3_visit_40 at hF
  unfold fX3_visit_40
  replace hF := ob_some hF
  obtain ⟨q1, h2, hF⟩ := hF
  obtain ⟨g3, e4, P⟩ := rX3_operate (r := q1.1) (w' := q1.2) P h2
  refine GR.bind e4 ?_
  by_cases c5 : s0 = 0
  · replace hF := ite_t c5 hF
    refine GR.t c5 ?_
    by_cases c6 : q1.1 = v7
    · replace hF := ite_t c6 hF
      refine GR.t c6 ?_
      exact rX3_visit_70 hk7 h0 P hF
    replace hF := ite_f c6 hF
    refine GR.f c6 ?_
    replace hF := ob_some hF
    obtain ⟨q7, h8, hF⟩ := hF
    obtain ⟨g9, e10, P⟩ := rX3_note (r := q7.1) (w' := q7.2) P h8
    refine GR.bind e10 ?_
    exact rX3_visit_70 hk7 h0 P hF
  replace hF := ite_f c5 hF
  refine GR.f c5 ?_
  exact rX3_visit_73 hk7 h0 P hF
def FX3_visit_7  : Nat → HS → Nat → Nat → Int32 → Int32 → Int32 → Int32 → Option (Unit × HS)
  | 0, _, _, _, _, _, _, _ => none
  | n + 1, w, v0, v1, v2, v3, v5, v6 =>
  (FX2_opsOf w v1 v2).bind fun q1 =>
  (if q1.1 ≤ v6 then (some ((), q1.2)) else
  ((FX2_opAt q1.2 v1 v2 v6).bind fun q6 =>
  (if (2 : Int32) ≤ q6.1 then (FX3_visit_40 (FX3_visit_7 n) q6.2 v0 v1 v2 v3 v5 v6 q6.1 (q6.1 - (1 : Int32))) else
  (FX3_visit_40 (FX3_visit_7 n) q6.2 v0 v1 v2 v3 v5 v6 q6.1 (0 : Int32)))))
set_option maxHeartbeats 4000000 in
set_option maxRecDepth 100000 in
theorem rX3_visit_7 {ar : Nat → Nat → Nat} {c0 : Nat → Nat} {sz : Nat} {r : Unit} {w' : HS}   : ∀ (n : Nat) (g : PH) (w : HS) (v0 : Nat) (v1 : Nat) (v2 : Int32) (v3 : Int32) (v5 : Int32) (v6 : Int32), c0 v0 = 3 → Rel ar c0 sz g w → FX3_visit_7  n w v0 v1 v2 v3 v5 v6 = some (r, w') → GR ar c0 sz r w' (fX3_visit_7  n g v0 v1 v2 v3 v5 v6) := by
  intro n
  induction n with
  | zero =>
    intro g w v0 v1 v2 v3 v5 v6 h0 P hF
    rw [FX3_visit_7] at hF
    cases hF
  | succ n ih =>
    intro g w v0 v1 v2 v3 v5 v6 h0 P hF
    rw [FX3_visit_7] at hF
    rw [fX3_visit_7]
    replace hF := ob_some hF
    obtain ⟨q1, h2, hF⟩ := hF
    obtain ⟨g3, e4, P⟩ := rX2_opsOf (r := q1.1) (w' := q1.2) P h2
    refine GR.bind e4 ?_
    by_cases c5 : q1.1 ≤ v6
    · replace hF := ite_t c5 hF
      refine GR.t c5 ?_
      obtain ⟨f1, f2⟩ := finW hF
      subst f1
      subst f2
      exact GR.ret P
    replace hF := ite_f c5 hF
    refine GR.f c5 ?_
    replace hF := ob_some hF
    obtain ⟨q6, h7, hF⟩ := hF
    obtain ⟨g8, e9, P⟩ := rX2_opAt (r := q6.1) (w' := q6.2) P h7
    refine GR.bind e9 ?_
    by_cases c10 : (2 : Int32) ≤ q6.1
    · replace hF := ite_t c10 hF
      refine GR.t c10 ?_
      exact rX3_visit_40 ih h0 P hF
    replace hF := ite_f c10 hF
    refine GR.f c10 ?_
    exact rX3_visit_40 ih h0 P hF
def FX3_visit (w : HS) (a0 : Nat) (a1 : Nat) (a2 : Int32) (a3 : Int32) (a4 : Int32) : Option (Unit × HS) :=
  okb (hc w a0 == 3) (FX3_visit_7 FUEL w a0 a1 a2 a3 a4 (0 : Int32))
set_option maxHeartbeats 4000000 in
set_option maxRecDepth 100000 in
theorem rX3_visit {ar : Nat → Nat → Nat} {c0 : Nat → Nat} {sz : Nat} {g : PH} {w w' : HS} {a0 : Nat} {a1 : Nat} {a2 : Int32} {a3 : Int32} {a4 : Int32} {r : Unit} (P : Rel ar c0 sz g w) (hF : FX3_visit w a0 a1 a2 a3 a4 = some (r, w')) : GR ar c0 sz r w' (fX3_visit g a0 a1 a2 a3 a4) := by
  unfold FX3_visit at hF
  unfold fX3_visit
  replace hF := okb_some hF
  obtain ⟨h0, hF⟩ := hF
  replace h0 := P.cls h0
  refine GR.ok (P.rO h0 (by decide)) ?_
  exact rX3_visit_7  _ _ _ _ _ _ _ _ _ h0 P hF
def FX3_goThrough_79 (k26 : HS → Nat → Nat → Int32 → Int32 → Int32 → Option (Unit × HS)) (k47 : HS → Nat → Nat → Int32 → Int32 → Int32 → Int32 → Int32 → Option (Unit × HS)) (w : HS) (v0 : Nat) (v1 : Nat) (v3 : Int32) (v4 : Int32) (v5 : Int32) (v6 : Int32) (v7 : Int32) (s0 : Int32) (s1 : Int32) (s2 : Nat) (s3 : Nat) : Option (Unit × HS) :=
  (FX3_visit w s3 s2 s1 s0 v4).bind fun q1 =>
  ((FX2_readsOf q1.2 v1 v5).bind fun q5 =>
  (k47 q5.2 v0 v1 v3 (v4 + q5.1) v5 v6 (v7 + (1 : Int32))))
set_option maxHeartbeats 4000000 in
set_option maxRecDepth 100000 in
theorem rX3_goThrough_79 {ar : Nat → Nat → Nat} {c0 : Nat → Nat} {sz : Nat} {r : Unit} {w' : HS} {k26 : HS → Nat → Nat → Int32 → Int32 → Int32 → Option (Unit × HS)} {j26 : PH → Nat → Nat → Int32 → Int32 → Int32 → Option (Unit × PH)} {k47 : HS → Nat → Nat → Int32 → Int32 → Int32 → Int32 → Int32 → Option (Unit × HS)} {j47 : PH → Nat → Nat → Int32 → Int32 → Int32 → Int32 → Int32 → Option (Unit × PH)} (hk26 : ∀ (g : PH) (w : HS) (v0 : Nat) (v1 : Nat) (v3 : Int32) (v4 : Int32) (v5 : Int32), c0 v0 = 3 → Rel ar c0 sz g w → k26 w v0 v1 v3 v4 v5 = some (r, w') → GR ar c0 sz r w' (j26 g v0 v1 v3 v4 v5)) (hk47 : ∀ (g : PH) (w : HS) (v0 : Nat) (v1 : Nat) (v3 : Int32) (v4 : Int32) (v5 : Int32) (v6 : Int32) (v7 : Int32), c0 v0 = 3 → Rel ar c0 sz g w → k47 w v0 v1 v3 v4 v5 v6 v7 = some (r, w') → GR ar c0 sz r w' (j47 g v0 v1 v3 v4 v5 v6 v7)) {g : PH} {w : HS} {v0 : Nat} {v1 : Nat} {v3 : Int32} {v4 : Int32} {v5 : Int32} {v6 : Int32} {v7 : Int32} {s0 : Int32} {s1 : Int32} {s2 : Nat} {s3 : Nat} (h0 : c0 v0 = 3) (P : Rel ar c0 sz g w) (hF : FX3_goThrough_79 k26 k47 w v0 v1 v3 v4 v5 v6 v7 s0 s1 s2 s3 = some (r, w')) : GR ar c0 sz r w' (fX3_goThrough_79 j26 j47 g v0 v1 v3 v4 v5 v6 v7 s0 s1 s2 s3) := by
  unfold FX3_goThrough_79 at hF
  unfold fX3_goThrough_79
  replace hF := ob_some hF
  obtain ⟨q1, h2, hF⟩ := hF
  obtain ⟨g3, e4, P⟩ := rX3_visit (r := q1.1) (w' := q1.2) P h2
  refine GR.bind e4 ?_
  replace hF := ob_some hF
  obtain ⟨q5, h6, hF⟩ := hF
  obtain ⟨g7, e8, P⟩ := rX2_readsOf (r := q5.1) (w' := q5.2) P h6
  refine GR.bind e8 ?_
  exact hk47 _ _ _ _ _ _ _ _ _ h0 P hF
def FX3_goThrough_47 (k26 : HS → Nat → Nat → Int32 → Int32 → Int32 → Option (Unit × HS)) : Nat → HS → Nat → Nat → Int32 → Int32 → Int32 → Int32 → Int32 → Option (Unit × HS)
  | 0, _, _, _, _, _, _, _, _ => none
  | n + 1, w, v0, v1, v3, v4, v5, v6, v7 =>
  if (hi w v0 0) ≤ v7 then (k26 w v0 v1 v3 v4 (v5 + (1 : Int32))) else
  (if v6 = 0 then (FX3_goThrough_79 (k26) (FX3_goThrough_47 k26 n) w v0 v1 v3 v4 v5 v6 v7 v7 v5 v1 v0) else
  (FX3_goThrough_79 (k26) (FX3_goThrough_47 k26 n) w v0 v1 v3 v4 v5 v6 v7 (((hi w v0 0) - (1 : Int32)) - v7) v5 v1 v0))
set_option maxHeartbeats 4000000 in
set_option maxRecDepth 100000 in
theorem rX3_goThrough_47 {ar : Nat → Nat → Nat} {c0 : Nat → Nat} {sz : Nat} {r : Unit} {w' : HS} {k26 : HS → Nat → Nat → Int32 → Int32 → Int32 → Option (Unit × HS)} {j26 : PH → Nat → Nat → Int32 → Int32 → Int32 → Option (Unit × PH)} (hk26 : ∀ (g : PH) (w : HS) (v0 : Nat) (v1 : Nat) (v3 : Int32) (v4 : Int32) (v5 : Int32), c0 v0 = 3 → Rel ar c0 sz g w → k26 w v0 v1 v3 v4 v5 = some (r, w') → GR ar c0 sz r w' (j26 g v0 v1 v3 v4 v5)) : ∀ (n : Nat) (g : PH) (w : HS) (v0 : Nat) (v1 : Nat) (v3 : Int32) (v4 : Int32) (v5 : Int32) (v6 : Int32) (v7 : Int32), c0 v0 = 3 → Rel ar c0 sz g w → FX3_goThrough_47 k26 n w v0 v1 v3 v4 v5 v6 v7 = some (r, w') → GR ar c0 sz r w' (fX3_goThrough_47 j26 n g v0 v1 v3 v4 v5 v6 v7) := by
  intro n
  induction n with
  | zero =>
    intro g w v0 v1 v3 v4 v5 v6 v7 h0 P hF
    rw [FX3_goThrough_47] at hF
    cases hF
  | succ n ih =>
    intro g w v0 v1 v3 v4 v5 v6 v7 h0 P hF
    rw [FX3_goThrough_47] at hF
    rw [fX3_goThrough_47]
    refine GR.bind (P.rI (k := 0) h0 (by decide) (by decide) (by decide)) ?_
    by_cases c1 : (hi w v0 0) ≤ v7
    · replace hF := ite_t c1 hF
      refine GR.t c1 ?_
      exact hk26 _ _ _ _ _ _ _ h0 P hF
    replace hF := ite_f c1 hF
    refine GR.f c1 ?_
    by_cases c2 : v6 = 0
    · replace hF := ite_t c2 hF
      refine GR.t c2 ?_
      exact rX3_goThrough_79 hk26 ih h0 P hF
    replace hF := ite_f c2 hF
    refine GR.f c2 ?_
    refine GR.bind (P.rI (k := 0) h0 (by decide) (by decide) (by decide)) ?_
    exact rX3_goThrough_79 hk26 ih h0 P hF
def FX3_goThrough_26  : Nat → HS → Nat → Nat → Int32 → Int32 → Int32 → Option (Unit × HS)
  | 0, _, _, _, _, _, _ => none
  | n + 1, w, v0, v1, v3, v4, v5 =>
  okb (hc w v1 == 2) (if (hi w v1 0) ≤ v5 then (some ((), w)) else
  ((FX2_isDown w v1 v5 v3).bind fun q3 =>
  (FX3_goThrough_47 (FX3_goThrough_26 n) FUEL q3.2 v0 v1 v3 v4 v5 q3.1 (0 : Int32))))
set_option maxHeartbeats 4000000 in
set_option maxRecDepth 100000 in
theorem rX3_goThrough_26 {ar : Nat → Nat → Nat} {c0 : Nat → Nat} {sz : Nat} {r : Unit} {w' : HS}   : ∀ (n : Nat) (g : PH) (w : HS) (v0 : Nat) (v1 : Nat) (v3 : Int32) (v4 : Int32) (v5 : Int32), c0 v0 = 3 → Rel ar c0 sz g w → FX3_goThrough_26  n w v0 v1 v3 v4 v5 = some (r, w') → GR ar c0 sz r w' (fX3_goThrough_26  n g v0 v1 v3 v4 v5) := by
  intro n
  induction n with
  | zero =>
    intro g w v0 v1 v3 v4 v5 h0 P hF
    rw [FX3_goThrough_26] at hF
    cases hF
  | succ n ih =>
    intro g w v0 v1 v3 v4 v5 h0 P hF
    rw [FX3_goThrough_26] at hF
    rw [fX3_goThrough_26]
    replace hF := okb_some hF
    obtain ⟨h1, hF⟩ := hF
    replace h1 := P.cls h1
    refine GR.bind (P.rI (k := 0) h1 (by decide) (by decide) (by decide)) ?_
    by_cases c2 : (hi w v1 0) ≤ v5
    · replace hF := ite_t c2 hF
      refine GR.t c2 ?_
      obtain ⟨f1, f2⟩ := finW hF
      subst f1
      subst f2
      exact GR.ret P
    replace hF := ite_f c2 hF
    refine GR.f c2 ?_
    replace hF := ob_some hF
    obtain ⟨q3, h4, hF⟩ := hF
    obtain ⟨g5, e6, P⟩ := rX2_isDown (r := q3.1) (w' := q3.2) P h4
    refine GR.bind e6 ?_
    exact rX3_goThrough_47 ih _ _ _ _ _ _ _ _ _ _ h0 P hF
def FX3_goThrough (w : HS) (a0 : Nat) (a1 : Nat) (a2 : Int32) (a3 : Int32) : Option (Unit × HS) :=
  okb (hc w a0 == 3) (bnd (setI w a0 6 a2) fun w1 =>
  (bnd (setI w1 a0 7 a3) fun w5 =>
  (bnd (setI w5 a0 8 (0 : Int32)) fun w9 =>
  (bnd (setI w9 a0 9 (0 : Int32)) fun w13 =>
  (FX3_goThrough_26 FUEL w13 a0 a1 a3 (0 : Int32) (0 : Int32))))))
set_option maxHeartbeats 4000000 in
set_option maxRecDepth 100000 in
theorem rX3_goThrough {ar : Nat → Nat → Nat} {c0 : Nat → Nat} {sz : Nat} {g : PH} {w w' : HS} {a0 : Nat} {a1 : Nat} {a2 : Int32} {a3 : Int32} {r : Unit} (P : Rel ar c0 sz g w) (hF : FX3_goThrough w a0 a1 a2 a3 = some (r, w')) : GR ar c0 sz r w' (fX3_goThrough g a0 a1 a2 a3) := by
  unfold FX3_goThrough at hF
  unfold fX3_goThrough
  replace hF := okb_some hF
  obtain ⟨h0, hF⟩ := hF
  replace h0 := P.cls h0
  refine GR.ok (P.rO h0 (by decide)) ?_
  replace hF := bnd_e hF
  obtain ⟨w1, e2, hF⟩ := hF
  obtain ⟨g3, e4, P⟩ := P.putI (k := 6) h0 (by decide) (by decide) (by decide) e2
  refine GR.bind e4 ?_
  replace hF := bnd_e hF
  obtain ⟨w5, e6, hF⟩ := hF
  obtain ⟨g7, e8, P⟩ := P.putI (k := 7) h0 (by decide) (by decide) (by decide) e6
  refine GR.bind e8 ?_
  replace hF := bnd_e hF
  obtain ⟨w9, e10, hF⟩ := hF
  obtain ⟨g11, e12, P⟩ := P.putI (k := 8) h0 (by decide) (by decide) (by decide) e10
  refine GR.bind e12 ?_
  replace hF := bnd_e hF
  obtain ⟨w13, e14, hF⟩ := hF
  obtain ⟨g15, e16, P⟩ := P.putI (k := 9) h0 (by decide) (by decide) (by decide) e14
  refine GR.bind e16 ?_
  exact rX3_goThrough_26  _ _ _ _ _ _ _ _ h0 P hF
def FX3_loggedNumber (w : HS) (a0 : Nat) (a1 : Int32) : Option (Int32 × HS) :=
  okb (hc w a0 == 3) (if a1 < 0 then (some ((-1 : Int32), w)) else
  (if (60 : Int32) ≤ a1 then (some ((-1 : Int32), w)) else
  (okb (inb a1 60) (some (((ha w a0 11 a1.toNatClampNeg) >>> ((3 : Int32) &&& 31)), w)))))
set_option maxHeartbeats 4000000 in
set_option maxRecDepth 100000 in
theorem rX3_loggedNumber {ar : Nat → Nat → Nat} {c0 : Nat → Nat} {sz : Nat} {g : PH} {w w' : HS} {a0 : Nat} {a1 : Int32} {r : Int32} (P : Rel ar c0 sz g w) (hF : FX3_loggedNumber w a0 a1 = some (r, w')) : GR ar c0 sz r w' (fX3_loggedNumber g a0 a1) := by
  unfold FX3_loggedNumber at hF
  unfold fX3_loggedNumber
  replace hF := okb_some hF
  obtain ⟨h0, hF⟩ := hF
  replace h0 := P.cls h0
  refine GR.ok (P.rO h0 (by decide)) ?_
  by_cases c1 : a1 < 0
  · replace hF := ite_t c1 hF
    refine GR.t c1 ?_
    obtain ⟨f1, f2⟩ := finW hF
    subst f1
    subst f2
    exact GR.ret P
  replace hF := ite_f c1 hF
  refine GR.f c1 ?_
  by_cases c2 : (60 : Int32) ≤ a1
  · replace hF := ite_t c2 hF
    refine GR.t c2 ?_
    obtain ⟨f1, f2⟩ := finW hF
    subst f1
    subst f2
    exact GR.ret P
  replace hF := ite_f c2 hF
  refine GR.f c2 ?_
  refine GR.bind (P.getRa (k := 11) h0 (by decide) (by decide) (by decide)) ?_
  replace hF := okb_some hF
  obtain ⟨h3, hF⟩ := hF
  refine GR.bind (P.dI (k := 11) (n := a1.toNatClampNeg) h0 (by decide) (by decide) (by decide) (by decide) h3 rfl) ?_
  obtain ⟨f1, f2⟩ := finW hF
  subst f1
  subst f2
  exact GR.ret P
def FX3_loggedAddress (w : HS) (a0 : Nat) (a1 : Int32) : Option (Int32 × HS) :=
  okb (hc w a0 == 3) (if a1 < 0 then (some ((-1 : Int32), w)) else
  (if (60 : Int32) ≤ a1 then (some ((-1 : Int32), w)) else
  (okb (inb a1 60) (some (((ha w a0 11 a1.toNatClampNeg) &&& (7 : Int32)), w)))))
set_option maxHeartbeats 4000000 in
set_option maxRecDepth 100000 in
theorem rX3_loggedAddress {ar : Nat → Nat → Nat} {c0 : Nat → Nat} {sz : Nat} {g : PH} {w w' : HS} {a0 : Nat} {a1 : Int32} {r : Int32} (P : Rel ar c0 sz g w) (hF : FX3_loggedAddress w a0 a1 = some (r, w')) : GR ar c0 sz r w' (fX3_loggedAddress g a0 a1) := by
  unfold FX3_loggedAddress at hF
  unfold fX3_loggedAddress
  replace hF := okb_some hF
  obtain ⟨h0, hF⟩ := hF
  replace h0 := P.cls h0
  refine GR.ok (P.rO h0 (by decide)) ?_
  by_cases c1 : a1 < 0
  · replace hF := ite_t c1 hF
    refine GR.t c1 ?_
    obtain ⟨f1, f2⟩ := finW hF
    subst f1
    subst f2
    exact GR.ret P
  replace hF := ite_f c1 hF
  refine GR.f c1 ?_
  by_cases c2 : (60 : Int32) ≤ a1
  · replace hF := ite_t c2 hF
    refine GR.t c2 ?_
    obtain ⟨f1, f2⟩ := finW hF
    subst f1
    subst f2
    exact GR.ret P
  replace hF := ite_f c2 hF
  refine GR.f c2 ?_
  refine GR.bind (P.getRa (k := 11) h0 (by decide) (by decide) (by decide)) ?_
  replace hF := okb_some hF
  obtain ⟨h3, hF⟩ := hF
  refine GR.bind (P.dI (k := 11) (n := a1.toNatClampNeg) h0 (by decide) (by decide) (by decide) (by decide) h3 rfl) ?_
  obtain ⟨f1, f2⟩ := finW hF
  subst f1
  subst f2
  exact GR.ret P
def FX3_hasLogOf_15  : Nat → HS → Nat → Nat → Int32 → Option (Int32 × HS)
  | 0, _, _, _, _ => none
  | n + 1, w, v0, v1, v2 =>
  if (hi w v0 9) ≤ v2 then (some ((1 : Int32), w)) else
  ((FX3_loggedNumber w v0 v2).bind fun q2 =>
  ((FX7_numberAt q2.2 v1 v2).bind fun q6 =>
  (if q2.1 = q6.1 then (FX3_hasLogOf_15 n q6.2 v0 v1 (v2 + (1 : Int32))) else
  (some ((0 : Int32), q6.2)))))
set_option maxHeartbeats 4000000 in
set_option maxRecDepth 100000 in
theorem rX3_hasLogOf_15 {ar : Nat → Nat → Nat} {c0 : Nat → Nat} {sz : Nat} {r : Int32} {w' : HS}   : ∀ (n : Nat) (g : PH) (w : HS) (v0 : Nat) (v1 : Nat) (v2 : Int32), c0 v0 = 3 → Rel ar c0 sz g w → FX3_hasLogOf_15  n w v0 v1 v2 = some (r, w') → GR ar c0 sz r w' (fX3_hasLogOf_15  n g v0 v1 v2) := by
  intro n
  induction n with
  | zero =>
    intro g w v0 v1 v2 h0 P hF
    rw [FX3_hasLogOf_15] at hF
    cases hF
  | succ n ih =>
    intro g w v0 v1 v2 h0 P hF
    rw [FX3_hasLogOf_15] at hF
    rw [fX3_hasLogOf_15]
    refine GR.bind (P.rI (k := 9) h0 (by decide) (by decide) (by decide)) ?_
    by_cases c1 : (hi w v0 9) ≤ v2
    · replace hF := ite_t c1 hF
      refine GR.t c1 ?_
      obtain ⟨f1, f2⟩ := finW hF
      subst f1
      subst f2
      exact GR.ret P
    replace hF := ite_f c1 hF
    refine GR.f c1 ?_
    replace hF := ob_some hF
    obtain ⟨q2, h3, hF⟩ := hF
    obtain ⟨g4, e5, P⟩ := rX3_loggedNumber (r := q2.1) (w' := q2.2) P h3
    refine GR.bind e5 ?_
    replace hF := ob_some hF
    obtain ⟨q6, h7, hF⟩ := hF
    obtain ⟨g8, e9, P⟩ := rX7_numberAt (r := q6.1) (w' := q6.2) P h7
    refine GR.bind e9 ?_
    by_cases c10 : q2.1 = q6.1
    · replace hF := ite_t c10 hF
      refine GR.t c10 ?_
      exact ih _ _ _ _ _ h0 P hF
    replace hF := ite_f c10 hF
    refine GR.f c10 ?_
    obtain ⟨f1, f2⟩ := finW hF
    subst f1
    subst f2
    exact GR.ret P
def FX3_hasLogOf (w : HS) (a0 : Nat) (a1 : Nat) : Option (Int32 × HS) :=
  okb (hc w a0 == 3) (okb (hc w a1 == 7) (if (hi w a1 2) = (hi w a0 8) then (FX3_hasLogOf_15 FUEL w a0 a1 (0 : Int32)) else
  (some ((0 : Int32), w))))
set_option maxHeartbeats 4000000 in
set_option maxRecDepth 100000 in
theorem rX3_hasLogOf {ar : Nat → Nat → Nat} {c0 : Nat → Nat} {sz : Nat} {g : PH} {w w' : HS} {a0 : Nat} {a1 : Nat} {r : Int32} (P : Rel ar c0 sz g w) (hF : FX3_hasLogOf w a0 a1 = some (r, w')) : GR ar c0 sz r w' (fX3_hasLogOf g a0 a1) := by
  unfold FX3_hasLogOf at hF
  unfold fX3_hasLogOf
  replace hF := okb_some hF
  obtain ⟨h0, hF⟩ := hF
  replace h0 := P.cls h0
  refine GR.ok (P.rO h0 (by decide)) ?_
  replace hF := okb_some hF
  obtain ⟨h1, hF⟩ := hF
  replace h1 := P.cls h1
  refine GR.bind (P.rI (k := 2) h1 (by decide) (by decide) (by decide)) ?_
  refine GR.bind (P.rI (k := 8) h0 (by decide) (by decide) (by decide)) ?_
  by_cases c2 : (hi w a1 2) = (hi w a0 8)
  · replace hF := ite_t c2 hF
    refine GR.t c2 ?_
    exact rX3_hasLogOf_15  _ _ _ _ _ _ h0 P hF
  replace hF := ite_f c2 hF
  refine GR.f c2 ?_
  obtain ⟨f1, f2⟩ := finW hF
  subst f1
  subst f2
  exact GR.ret P
