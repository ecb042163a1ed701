def FX6_rewind (w : HS) (a0 : Nat) : Option (Unit × HS) :=
  okb (hc w a0 == 6) (bnd (setI w a0 2 (0 : Int32)) fun w1 =>
  (bnd (setI w1 a0 3 (0 : Int32)) fun w5 =>
  (some ((), w5))))
set_option maxHeartbeats 4000000 in
set_option maxRecDepth 100000 in
theorem rX6_rewind {ar : Nat → Nat → Nat} {c0 : Nat → Nat} {sz : Nat} {g : PH} {w w' : HS} {a0 : Nat} {r : Unit} (P : Rel ar c0 sz g w) (hF : FX6_rewind w a0 = some (r, w')) : GR ar c0 sz r w' (fX6_rewind g a0) := by
  unfold FX6_rewind at hF
  unfold fX6_rewind
  replace hF := okb_some hF
  obtain ⟨h0, hF⟩ := hF
  replace h0 := P.cls h0
  refine GR.ok (P.rO h0 (by decide)) ?_
  replace hF := bnd_e hF
  obtain ⟨w1, e2, hF⟩ := hF
  obtain ⟨g3, e4, P⟩ := P.putI (k := 2) h0 (by decide) (by decide) (by decide) e2
  refine GR.bind e4 ?_
  replace hF := bnd_e hF
  obtain ⟨w5, e6, hF⟩ := hF
  obtain ⟨g7, e8, P⟩ := P.putI (k := 3) h0 (by decide) (by decide) (by decide) e6
  refine GR.bind e8 ?_
  obtain ⟨f1, f2⟩ := finW hF
  subst f1
  subst f2
  exact GR.ret P
def FX6_byteAt (w : HS) (a0 : Nat) (a1 : Int32) : Option (Int32 × HS) :=
  okb (hc w a0 == 6) (if a1 < 0 then (some ((-1 : Int32), w)) else
  (if (hi w a0 1) ≤ a1 then (some ((-1 : Int32), w)) else
  (if (200 : Int32) ≤ a1 then (some ((-1 : Int32), w)) else
  (okb (inb a1 200) (some (((ha w a0 0 a1.toNatClampNeg) &&& (255 : Int32)), w))))))
set_option maxHeartbeats 4000000 in
set_option maxRecDepth 100000 in
theorem rX6_byteAt {ar : Nat → Nat → Nat} {c0 : Nat → Nat} {sz : Nat} {g : PH} {w w' : HS} {a0 : Nat} {a1 : Int32} {r : Int32} (P : Rel ar c0 sz g w) (hF : FX6_byteAt w a0 a1 = some (r, w')) : GR ar c0 sz r w' (fX6_byteAt g a0 a1) := by
  unfold FX6_byteAt at hF
  unfold fX6_byteAt
  replace hF := okb_some hF
  obtain ⟨h0, hF⟩ := hF
  replace h0 := P.cls h0
  refine GR.ok (P.rO h0 (by decide)) ?_
  by_cases c1 : a1 < 0
  · replace hF := ite_t c1 hF
    refine GR.t c1 ?_
    obtain ⟨f1, f2⟩ := finW hF
    subst f1
    subst f2
    exact GR.ret P
  replace hF := ite_f c1 hF
  refine GR.f c1 ?_
  refine GR.bind (P.rI (k := 1) h0 (by decide) (by decide) (by decide)) ?_
  by_cases c2 : (hi w a0 1) ≤ a1
  · replace hF := ite_t c2 hF
    refine GR.t c2 ?_
    obtain ⟨f1, f2⟩ := finW hF
    subst f1
    subst f2
    exact GR.ret P
  replace hF := ite_f c2 hF
  refine GR.f c2 ?_
  by_cases c3 : (200 : Int32) ≤ a1
  · replace hF := ite_t c3 hF
    refine GR.t c3 ?_
    obtain ⟨f1, f2⟩ := finW hF
    subst f1
    subst f2
    exact GR.ret P
  replace hF := ite_f c3 hF
  refine GR.f c3 ?_
  refine GR.bind (P.getRa (k := 0) h0 (by decide) (by decide) (by decide)) ?_
  replace hF := okb_some hF
  obtain ⟨h4, hF⟩ := hF
  refine GR.bind (P.dI (k := 0) (n := a1.toNatClampNeg) h0 (by decide) (by decide) (by decide) (by decide) h4 rfl) ?_
  obtain ⟨f1, f2⟩ := finW hF
  subst f1
  subst f2
  exact GR.ret P
def FX6_nextPlace_0  : Nat → HS → Nat → Option (Int32 × HS)
  | 0, _, _ => none
  | n + 1, w, v0 =>
  if (hi w v0 1) ≤ (hi w v0 2) then (some ((hi w v0 2), w)) else
  ((FX6_byteAt w v0 (hi w v0 2)).bind fun q2 =>
  (if q2.1 = (32 : Int32) then (bnd (setI q2.2 v0 2 ((hi q2.2 v0 2) + (1 : Int32))) fun w7 =>
  (FX6_nextPlace_0 n w7 v0)) else
  (some ((hi q2.2 v0 2), q2.2))))
set_option maxHeartbeats 4000000 in
set_option maxRecDepth 100000 in
theorem rX6_nextPlace_0 {ar : Nat → Nat → Nat} {c0 : Nat → Nat} {sz : Nat} {r : Int32} {w' : HS}   : ∀ (n : Nat) (g : PH) (w : HS) (v0 : Nat), c0 v0 = 6 → Rel ar c0 sz g w → FX6_nextPlace_0  n w v0 = some (r, w') → GR ar c0 sz r w' (fX6_nextPlace_0  n g v0) := by
  intro n
  induction n with
  | zero =>
    intro g w v0 h0 P hF
    rw [FX6_nextPlace_0] at hF
    cases hF
  | succ n ih =>
    intro g w v0 h0 P hF
    rw [FX6_nextPlace_0] at hF
    rw [fX6_nextPlace_0]
    refine GR.bind (P.rI (k := 2) h0 (by decide) (by decide) (by decide)) ?_
    refine GR.bind (P.rI (k := 1) h0 (by decide) (by decide) (by decide)) ?_
    by_cases c1 : (hi w v0 1) ≤ (hi w v0 2)
    · replace hF := ite_t c1 hF
      refine GR.t c1 ?_
      refine GR.bind (P.rI (k := 2) h0 (by decide) (by decide) (by decide)) ?_
      obtain ⟨f1, f2⟩ := finW hF
      subst f1
      subst f2
      exact GR.ret P
    replace hF := ite_f c1 hF
    refine GR.f c1 ?_
    refine GR.bind (P.rI (k := 2) h0 (by decide) (by decide) (by decide)) ?_
    replace hF := ob_some hF
    obtain ⟨q2, h3, hF⟩ := hF
    obtain ⟨g4, e5, P⟩ := rX6_byteAt (r := q2.1) (w' := q2.2) P h3
    refine GR.bind e5 ?_
    by_cases c6 : q2.1 = (32 : Int32)
    · replace hF := ite_t c6 hF
      refine GR.t c6 ?_
      refine GR.bind (P.rI (k := 2) h0 (by decide) (by decide) (by decide)) ?_
      replace hF := bnd_e hF
      obtain ⟨w7, e8, hF⟩ := hF
      obtain ⟨g9, e10, P⟩ := P.putI (k := 2) h0 (by decide) (by decide) (by decide) e8
      refine GR.bind e10 ?_
      exact ih _ _ _ h0 P hF
    replace hF := ite_f c6 hF
    refine GR.f c6 ?_
    refine GR.bind (P.rI (k := 2) h0 (by decide) (by decide) (by decide)) ?_
    obtain ⟨f1, f2⟩ := finW hF
    subst f1
    subst f2
    exact GR.ret P
def FX6_nextPlace (w : HS) (a0 : Nat) : Option (Int32 × HS) :=
  okb (hc w a0 == 6) (FX6_nextPlace_0 FUEL w a0)
set_option maxHeartbeats 4000000 in
set_option maxRecDepth 100000 in
theorem rX6_nextPlace {ar : Nat → Nat → Nat} {c0 : Nat → Nat} {sz : Nat} {g : PH} {w w' : HS} {a0 : Nat} {r : Int32} (P : Rel ar c0 sz g w) (hF : FX6_nextPlace w a0 = some (r, w')) : GR ar c0 sz r w' (fX6_nextPlace g a0) := by
  unfold FX6_nextPlace at hF
  unfold fX6_nextPlace
  replace hF := okb_some hF
  obtain ⟨h0, hF⟩ := hF
  replace h0 := P.cls h0
  refine GR.ok (P.rO h0 (by decide)) ?_
  exact rX6_nextPlace_0  _ _ _ _ h0 P hF
def FX6_blame (w : HS) (a0 : Nat) (a1 : Int32) (a2 : Int32) : Option (Unit × HS) :=
  okb (hc w a0 == 6) (if (hi w a0 3) = 0 then (bnd (setI w a0 3 (((8 : Int32) * a1) + a2)) fun w2 =>
  (some ((), w2))) else
  (some ((), w)))
set_option maxHeartbeats 4000000 in
set_option maxRecDepth 100000 in
theorem rX6_blame {ar : Nat → Nat → Nat} {c0 : Nat → Nat} {sz : Nat} {g : PH} {w w' : HS} {a0 : Nat} {a1 : Int32} {a2 : Int32} {r : Unit} (P : Rel ar c0 sz g w) (hF : FX6_blame w a0 a1 a2 = some (r, w')) : GR ar c0 sz r w' (fX6_blame g a0 a1 a2) := by
  unfold FX6_blame at hF
  unfold fX6_blame
  replace hF := okb_some hF
  obtain ⟨h0, hF⟩ := hF
  replace h0 := P.cls h0
  refine GR.ok (P.rO h0 (by decide)) ?_
  refine GR.bind (P.rI (k := 3) h0 (by decide) (by decide) (by decide)) ?_
  by_cases c1 : (hi w a0 3) = 0
  · replace hF := ite_t c1 hF
    refine GR.t c1 ?_
    replace hF := bnd_e hF
    obtain ⟨w2, e3, hF⟩ := hF
    obtain ⟨g4, e5, P⟩ := P.putI (k := 3) h0 (by decide) (by decide) (by decide) e3
    refine GR.bind e5 ?_
    obtain ⟨f1, f2⟩ := finW hF
    subst f1
    subst f2
    exact GR.ret P
  replace hF := ite_f c1 hF
  refine GR.f c1 ?_
  obtain ⟨f1, f2⟩ := finW hF
  subst f1
  subst f2
  exact GR.ret P
def FX6_take_31  (w : HS) (v0 : Nat) (s0 : Int32) : Option (Int32 × HS) :=
  if 0 ≤ s0 then (bnd (setI w v0 2 ((hi w v0 2) + (1 : Int32))) fun w2 =>
  (some (s0, w2))) else
  ((FX6_blame w v0 (hi w v0 2) (1 : Int32)).bind fun q6 =>
  (some ((-1 : Int32), q6.2)))
set_option maxHeartbeats 4000000 in
set_option maxRecDepth 100000 in
theorem rX6_take_31 {ar : Nat → Nat → Nat} {c0 : Nat → Nat} {sz : Nat} {r : Int32} {w' : HS}   {g : PH} {w : HS} {v0 : Nat} {s0 : Int32} (h0 : c0 v0 = 6) (P : Rel ar c0 sz g w) (hF : FX6_take_31  w v0 s0 = some (r, w')) : GR ar c0 sz r w' (fX6_take_31  g v0 s0) := by
  unfold FX6_take_31 at hF
  unfold fX6_take_31
  by_cases c1 : 0 ≤ s0
  · replace hF := ite_t c1 hF
    refine GR.t c1 ?_
    refine GR.bind (P.rI (k := 2) h0 (by decide) (by decide) (by decide)) ?_
    replace hF := bnd_e hF
    obtain ⟨w2, e3, hF⟩ := hF
    obtain ⟨g4, e5, P⟩ := P.putI (k := 2) h0 (by decide) (by decide) (by decide) e3
    refine GR.bind e5 ?_
    obtain ⟨f1, f2⟩ := finW hF
    subst f1
    subst f2
    exact GR.ret P
  replace hF := ite_f c1 hF
  refine GR.f c1 ?_
  refine GR.bind (P.rI (k := 2) h0 (by decide) (by decide) (by decide)) ?_
  replace hF := ob_some hF
  obtain ⟨q6, h7, hF⟩ := hF
  obtain ⟨g8, e9, P⟩ := rX6_blame (r := q6.1) (w' := q6.2) P h7
  refine GR.bind e9 ?_
  obtain ⟨f1, f2⟩ := finW hF
  subst f1
  subst f2
  exact GR.ret P
def FX6_take_30  (w : HS) (v0 : Nat) : Option (Int32 × HS) :=
  FX6_take_31 w v0 (-1 : Int32)
set_option maxHeartbeats 4000000 in
set_option maxRecDepth 100000 in
theorem rX6_take_30 {ar : Nat → Nat → Nat} {c0 : Nat → Nat} {sz : Nat} {r : Int32} {w' : HS}   {g : PH} {w : HS} {v0 : Nat} (h0 : c0 v0 = 6) (P : Rel ar c0 sz g w) (hF : FX6_take_30  w v0 = some (r, w')) : GR ar c0 sz r w' (fX6_take_30  g v0) := by
  unfold FX6_take_30 at hF
  unfold fX6_take_30
  exact rX6_take_31  h0 P hF
def FX6_take (w : HS) (a0 : Nat) (a1 : Nat) : Option (Int32 × HS) :=
  okb (hc w a0 == 6) ((FX6_nextPlace w a0).bind fun q1 =>
  ((FX6_byteAt q1.2 a0 q1.1).bind fun q5 =>
  (if (hi q5.2 a0 3) = 0 then (if q5.1 = (-1 : Int32) then (FX6_take_30 q5.2 a0) else
  ((FJ0_indexOf_0f7a4 q5.2 a1 (q5.1.toUInt32 % 65536).toInt32).bind fun q11 =>
  (FX6_take_31 q11.2 a0 q11.1))) else
  (FX6_take_30 q5.2 a0))))
set_option maxHeartbeats 4000000 in
set_option maxRecDepth 100000 in
theorem rX6_take {ar : Nat → Nat → Nat} {c0 : Nat → Nat} {sz : Nat} {g : PH} {w w' : HS} {a0 : Nat} {a1 : Nat} {r : Int32} (P : Rel ar c0 sz g w) (hF : FX6_take w a0 a1 = some (r, w')) : GR ar c0 sz r w' (fX6_take g a0 a1) := by
  unfold FX6_take at hF
  unfold fX6_take
  replace hF := okb_some hF
  obtain ⟨h0, hF⟩ := hF
  replace h0 := P.cls h0
  refine GR.ok (P.rO h0 (by decide)) ?_
  replace hF := ob_some hF
  obtain ⟨q1, h2, hF⟩ := hF
  obtain ⟨g3, e4, P⟩ := rX6_nextPlace (r := q1.1) (w' := q1.2) P h2
  refine GR.bind e4 ?_
  replace hF := ob_some hF
  obtain ⟨q5, h6, hF⟩ := hF
  obtain ⟨g7, e8, P⟩ := rX6_byteAt (r := q5.1) (w' := q5.2) P h6
  refine GR.bind e8 ?_
  refine GR.bind (P.rI (k := 3) h0 (by decide) (by decide) (by decide)) ?_
  by_cases c9 : (hi q5.2 a0 3) = 0
  · replace hF := ite_t c9 hF
    refine GR.t c9 ?_
    by_cases c10 : q5.1 = (-1 : Int32)
    · replace hF := ite_t c10 hF
      refine GR.t c10 ?_
      exact rX6_take_30  h0 P hF
    replace hF := ite_f c10 hF
    refine GR.f c10 ?_
    replace hF := ob_some hF
    obtain ⟨q11, h12, hF⟩ := hF
    obtain ⟨g13, e14, P⟩ := rJ0_indexOf_0f7a4 (r := q11.1) (w' := q11.2) P h12
    refine GR.bind e14 ?_
    exact rX6_take_31  h0 P hF
  replace hF := ite_f c9 hF
  refine GR.f c9 ?_
  exact rX6_take_30  h0 P hF
def FX6_isOver (w : HS) (a0 : Nat) : Option (Int32 × HS) :=
  okb (hc w a0 == 6) (if (hi w a0 3) = 0 then ((FX6_nextPlace w a0).bind fun q2 =>
  (if q2.1 < (hi q2.2 a0 1) then (some ((0 : Int32), q2.2)) else
  (some ((1 : Int32), q2.2)))) else
  (some ((1 : Int32), w)))
set_option maxHeartbeats 4000000 in
set_option maxRecDepth 100000 in
theorem rX6_isOver {ar : Nat → Nat → Nat} {c0 : Nat → Nat} {sz : Nat} {g : PH} {w w' : HS} {a0 : Nat} {r : Int32} (P : Rel ar c0 sz g w) (hF : FX6_isOver w a0 = some (r, w')) : GR ar c0 sz r w' (fX6_isOver g a0) := by
  unfold FX6_isOver at hF
  unfold fX6_isOver
  replace hF := okb_some hF
  obtain ⟨h0, hF⟩ := hF
  replace h0 := P.cls h0
  refine GR.ok (P.rO h0 (by decide)) ?_
  refine GR.bind (P.rI (k := 3) h0 (by decide) (by decide) (by decide)) ?_
  by_cases c1 : (hi w a0 3) = 0
  · replace hF := ite_t c1 hF
    refine GR.t c1 ?_
    replace hF := ob_some hF
    obtain ⟨q2, h3, hF⟩ := hF
    obtain ⟨g4, e5, P⟩ := rX6_nextPlace (r := q2.1) (w' := q2.2) P h3
    refine GR.bind e5 ?_
    refine GR.bind (P.rI (k := 1) h0 (by decide) (by decide) (by decide)) ?_
    by_cases c6 : q2.1 < (hi q2.2 a0 1)
    · replace hF := ite_t c6 hF
      refine GR.t c6 ?_
      obtain ⟨f1, f2⟩ := finW hF
      subst f1
      subst f2
      exact GR.ret P
    replace hF := ite_f c6 hF
    refine GR.f c6 ?_
    obtain ⟨f1, f2⟩ := finW hF
    subst f1
    subst f2
    exact GR.ret P
  replace hF := ite_f c1 hF
  refine GR.f c1 ?_
  obtain ⟨f1, f2⟩ := finW hF
  subst f1
  subst f2
  exact GR.ret P
def FX6_takeWord_13  : Nat → HS → Nat → Nat → Int32 → Int32 → Int32 → Option (Int32 × HS)
  | 0, _, _, _, _, _, _ => none
  | n + 1, w, v0, v1, v2, v3, v4 =>
  if v3 ≤ v4 then ((FX6_byteAt w v0 (v2 + v3)).bind fun q2 =>
  (if q2.1 < (97 : Int32) then (bnd (setI q2.2 v0 2 (v2 + v3)) fun w7 =>
  (some ((1 : Int32), w7))) else
  (if (122 : Int32) < q2.1 then (bnd (setI q2.2 v0 2 (v2 + v3)) fun w12 =>
  (some ((1 : Int32), w12))) else
  (some ((0 : Int32), q2.2))))) else
  ((FX6_byteAt w v0 (v2 + v4)).bind fun q16 =>
  ((FJ0_charAt_5068e q16.2 v1 v4).bind fun q20 =>
  (if q16.1 = q20.1 then (FX6_takeWord_13 n q20.2 v0 v1 v2 v3 (v4 + (1 : Int32))) else
  (some ((0 : Int32), q20.2)))))
set_option maxHeartbeats 4000000 in
set_option maxRecDepth 100000 in
theorem rX6_takeWord_13 {ar : Nat → Nat → Nat} {c0 : Nat → Nat} {sz : Nat} {r : Int32} {w' : HS}   : ∀ (n : Nat) (g : PH) (w : HS) (v0 : Nat) (v1 : Nat) (v2 : Int32) (v3 : Int32) (v4 : Int32), c0 v0 = 6 → Rel ar c0 sz g w → FX6_takeWord_13  n w v0 v1 v2 v3 v4 = some (r, w') → GR ar c0 sz r w' (fX6_takeWord_13  n g v0 v1 v2 v3 v4) := by
  intro n
  induction n with
  | zero =>
    intro g w v0 v1 v2 v3 v4 h0 P hF
    rw [FX6_takeWord_13] at hF
    cases hF
  | succ n ih =>
    intro g w v0 v1 v2 v3 v4 h0 P hF
    rw [FX6_takeWord_13] at hF
    rw [fX6_takeWord_13]
    by_cases c1 : v3 ≤ v4
    · replace hF := ite_t c1 hF
      refine GR.t c1 ?_
      replace hF := ob_some hF
      obtain ⟨q2, h3, hF⟩ := hF
      obtain ⟨g4, e5, P⟩ := rX6_byteAt (r := q2.1) (w' := q2.2) P h3
      refine GR.bind e5 ?_
      by_cases c6 : q2.1 < (97 : Int32)
      · replace hF := ite_t c6 hF
        refine GR.t c6 ?_
        replace hF := bnd_e hF
        obtain ⟨w7, e8, hF⟩ := hF
        obtain ⟨g9, e10, P⟩ := P.putI (k := 2) h0 (by decide) (by decide) (by decide) e8
        refine GR.bind e10 ?_
        obtain ⟨f1, f2⟩ := finW hF
        subst f1
        subst f2
        exact GR.ret P
      replace hF := ite_f c6 hF
      refine GR.f c6 ?_
      by_cases c11 : (122 : Int32) < q2.1
      · replace hF := ite_t c11 hF
        refine GR.t c11 ?_
        replace hF := bnd_e hF
        obtain ⟨w12, e13, hF⟩ := hF
        obtain ⟨g14, e15, P⟩ := P.putI (k := 2) h0 (by decide) (by decide) (by decide) e13
        refine GR.bind e15 ?_
        obtain ⟨f1, f2⟩ := finW hF
        subst f1
        subst f2
        exact GR.ret P
      replace hF := ite_f c11 hF
      refine GR.f c11 ?_
      obtain ⟨f1, f2⟩ := finW hF
      subst f1
      subst f2
      exact GR.ret P
    replace hF := ite_f c1 hF
    refine GR.f c1 ?_
    replace hF := ob_some hF
    obtain ⟨q16, h17, hF⟩ := hF
    obtain ⟨g18, e19, P⟩ := rX6_byteAt (r := q16.1) (w' := q16.2) P h17
    refine GR.bind e19 ?_
    replace hF := ob_some hF
    obtain ⟨q20, h21, hF⟩ := hF
    obtain ⟨g22, e23, P⟩ := rJ0_charAt_5068e (r := q20.1) (w' := q20.2) P h21
    refine GR.bind e23 ?_
    by_cases c24 : q16.1 = q20.1
    · replace hF := ite_t c24 hF
      refine GR.t c24 ?_
      exact ih _ _ _ _ _ _ _ h0 P hF
    replace hF := ite_f c24 hF
    refine GR.f c24 ?_
    obtain ⟨f1, f2⟩ := finW hF
    subst f1
    subst f2
    exact GR.ret P
def FX6_takeWord (w : HS) (a0 : Nat) (a1 : Nat) : Option (Int32 × HS) :=
  okb (hc w a0 == 6) ((FX6_nextPlace w a0).bind fun q1 =>
  ((FJ0_length_8abf5 q1.2 a1).bind fun q5 =>
  (FX6_takeWord_13 FUEL q5.2 a0 a1 q1.1 q5.1 (0 : Int32))))
set_option maxHeartbeats 4000000 in
set_option maxRecDepth 100000 in
theorem rX6_takeWord {ar : Nat → Nat → Nat} {c0 : Nat → Nat} {sz : Nat} {g : PH} {w w' : HS} {a0 : Nat} {a1 : Nat} {r : Int32} (P : Rel ar c0 sz g w) (hF : FX6_takeWord w a0 a1 = some (r, w')) : GR ar c0 sz r w' (fX6_takeWord g a0 a1) := by
  unfold FX6_takeWord at hF
  unfold fX6_takeWord
  replace hF := okb_some hF
  obtain ⟨h0, hF⟩ := hF
  replace h0 := P.cls h0
  refine GR.ok (P.rO h0 (by decide)) ?_
  replace hF := ob_some hF
  obtain ⟨q1, h2, hF⟩ := hF
  obtain ⟨g3, e4, P⟩ := rX6_nextPlace (r := q1.1) (w' := q1.2) P h2
  refine GR.bind e4 ?_
  replace hF := ob_some hF
  obtain ⟨q5, h6, hF⟩ := hF
  obtain ⟨g7, e8, P⟩ := rJ0_length_8abf5 (r := q5.1) (w' := q5.2) P h6
  refine GR.bind e8 ?_
  exact rX6_takeWord_13  _ _ _ _ _ _ _ _ h0 P hF
def FX6_append_40 (k3 : HS → Nat → Int32 → Int32 → Option (Unit × HS)) (w : HS) (v0 : Nat) (v1 : Int32) (v2 : Int32) : Option (Unit × HS) :=
  k3 w v0 v1 (v2 + (-8 : Int32))
set_option maxHeartbeats 4000000 in
set_option maxRecDepth 100000 in
theorem rX6_append_40 {ar : Nat → Nat → Nat} {c0 : Nat → Nat} {sz : Nat} {r : Unit} {w' : HS} {k3 : HS → Nat → Int32 → Int32 → Option (Unit × HS)} {j3 : PH → Nat → Int32 → Int32 → Option (Unit × PH)} (hk3 : ∀ (g : PH) (w : HS) (v0 : Nat) (v1 : Int32) (v2 : Int32), c0 v0 = 6 → Rel ar c0 sz g w → k3 w v0 v1 v2 = some (r, w') → GR ar c0 sz r w' (j3 g v0 v1 v2)) {g : PH} {w : HS} {v0 : Nat} {v1 : Int32} {v2 : Int32} (h0 : c0 v0 = 6) (P : Rel ar c0 sz g w) (hF : FX6_append_40 k3 w v0 v1 v2 = some (r, w')) : GR ar c0 sz r w' (fX6_append_40 j3 g v0 v1 v2) := by
  unfold FX6_append_40 at hF
  unfold fX6_append_40
  exact hk3 _ _ _ _ _ h0 P hF
def FX6_append_3  : Nat → HS → Nat → Int32 → Int32 → Option (Unit × HS)
  | 0, _, _, _, _ => none
  | n + 1, w, v0, v1, v2 =>
  if v2 < 0 then (some ((), w)) else
  (if (200 : Int32) ≤ (hi w v0 1) then (FX6_append_40 (FX6_append_3 n) w v0 v1 v2) else
  (okb (inb (hi w v0 1) 200) (bnd (setA w v0 0 (hi w v0 1).toNatClampNeg (vp_nar .byte (v1 >>> (v2 &&& 31)).toInt8.toInt32)) fun w6 =>
  (bnd (setI w6 v0 1 ((hi w6 v0 1) + (1 : Int32))) fun w8 =>
  (FX6_append_40 (FX6_append_3 n) w8 v0 v1 v2)))))
set_option maxHeartbeats 4000000 in
set_option maxRecDepth 100000 in
theorem rX6_append_3 {ar : Nat → Nat → Nat} {c0 : Nat → Nat} {sz : Nat} {r : Unit} {w' : HS}   : ∀ (n : Nat) (g : PH) (w : HS) (v0 : Nat) (v1 : Int32) (v2 : Int32), c0 v0 = 6 → Rel ar c0 sz g w → FX6_append_3  n w v0 v1 v2 = some (r, w') → GR ar c0 sz r w' (fX6_append_3  n g v0 v1 v2) := by
  intro n
  induction n with
  | zero =>
    intro g w v0 v1 v2 h0 P hF
    rw [FX6_append_3] at hF
    cases hF
  | succ n ih =>
    intro g w v0 v1 v2 h0 P hF
    rw [FX6_append_3] at hF
    rw [fX6_append_3]
    by_cases c1 : v2 < 0
    · replace hF := ite_t c1 hF
      refine GR.t c1 ?_
      obtain ⟨f1, f2⟩ := finW hF
      subst f1
      subst f2
      exact GR.ret P
    replace hF := ite_f c1 hF
    refine GR.f c1 ?_
    refine GR.bind (P.rI (k := 1) h0 (by decide) (by decide) (by decide)) ?_
    by_cases c2 : (200 : Int32) ≤ (hi w v0 1)
    · replace hF := ite_t c2 hF
      refine GR.t c2 ?_
      exact rX6_append_40 ih h0 P hF
    replace hF := ite_f c2 hF
    refine GR.f c2 ?_
    refine GR.bind (P.getRa (k := 0) h0 (by decide) (by decide) (by decide)) ?_
    refine GR.bind (P.rI (k := 1) h0 (by decide) (by decide) (by decide)) ?_
    replace hF := okb_some hF
    obtain ⟨h3, hF⟩ := hF
    replace hF := bnd_e hF
    obtain ⟨w6, e7, hF⟩ := hF
    obtain ⟨g4, e5, P⟩ := P.sI (k := 0) (kd := 1) (j := (hi w v0 1)) h0 (by decide) (by decide) (by decide) (by decide) h3 rfl e7
    refine GR.bind e5 ?_
    refine GR.bind (P.rI (k := 1) h0 (by decide) (by decide) (by decide)) ?_
    replace hF := bnd_e hF
    obtain ⟨w8, e9, hF⟩ := hF
    obtain ⟨g10, e11, P⟩ := P.putI (k := 1) h0 (by decide) (by decide) (by decide) e9
    refine GR.bind e11 ?_
    exact rX6_append_40 ih h0 P hF
def FX6_append (w : HS) (a0 : Nat) (a1 : Int32) : Option (Unit × HS) :=
  okb (hc w a0 == 6) (FX6_append_3 FUEL w a0 a1 (24 : Int32))
set_option maxHeartbeats 4000000 in
set_option maxRecDepth 100000 in
theorem rX6_append {ar : Nat → Nat → Nat} {c0 : Nat → Nat} {sz : Nat} {g : PH} {w w' : HS} {a0 : Nat} {a1 : Int32} {r : Unit} (P : Rel ar c0 sz g w) (hF : FX6_append w a0 a1 = some (r, w')) : GR ar c0 sz r w' (fX6_append g a0 a1) := by
  unfold FX6_append at hF
  unfold fX6_append
  replace hF := okb_some hF
  obtain ⟨h0, hF⟩ := hF
  replace h0 := P.cls h0
  refine GR.ok (P.rO h0 (by decide)) ?_
  exact rX6_append_3  _ _ _ _ _ _ h0 P hF
