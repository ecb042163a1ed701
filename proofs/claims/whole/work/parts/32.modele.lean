def FX9_stepsFrom_162 (k3 : HS → Nat → Int32 → Int32 → Int32 → Int32 → Option (Int32 × HS)) (w : HS) (v0 : Nat) (v1 : Int32) (v2 : Int32) (v3 : Int32) (v4 : Int32) : Option (Int32 × HS) :=
  k3 w v0 v1 v2 v3 (v4 + (1 : Int32))
set_option maxHeartbeats 4000000 in
set_option maxRecDepth 100000 in
theorem rX9_stepsFrom_162 {ar : Nat → Nat → Nat} {c0 : Nat → Nat} {sz : Nat} {r : Int32} {w' : HS} {k3 : HS → Nat → Int32 → Int32 → Int32 → Int32 → Option (Int32 × HS)} {j3 : PH → Nat → Int32 → Int32 → Int32 → Int32 → Option (Int32 × PH)} (hk3 : ∀ (g : PH) (w : HS) (v0 : Nat) (v1 : Int32) (v2 : Int32) (v3 : Int32) (v4 : Int32), c0 v0 = 9 → Rel ar c0 sz g w → k3 w v0 v1 v2 v3 v4 = some (r, w') → GR ar c0 sz r w' (j3 g v0 v1 v2 v3 v4)) {g : PH} {w : HS} {v0 : Nat} {v1 : Int32} {v2 : Int32} {v3 : Int32} {v4 : Int32} (h0 : c0 v0 = 9) (P : Rel ar c0 sz g w) (hF : FX9_stepsFrom_162 k3 w v0 v1 v2 v3 v4 = some (r, w')) : GR ar c0 sz r w' (fX9_stepsFrom_162 j3 g v0 v1 v2 v3 v4) := by
  unfold FX9_stepsFrom_162 at hF
  unfold fX9_stepsFrom_162
  exact hk3 _ _ _ _ _ _ _ h0 P hF
def FX9_stepsFrom_136 (k3 : HS → Nat → Int32 → Int32 → Int32 → Int32 → Option (Int32 × HS)) (w : HS) (v0 : Nat) (v1 : Int32) (v2 : Int32) (v3 : Int32) (v4 : Int32) (v5 : Int32) (v6 : Int32) (v8 : Int32) : Option (Int32 × HS) :=
  (FX9_comes w v0 v3 v1 ((((100 : Int32) * v2) + ((27 : Int32) * v5)) + v6)).bind fun q1 =>
  (if v8 = 0 then (FX9_stepsFrom_162 (k3) q1.2 v0 v1 v2 v3 v4) else
  (some ((1 : Int32), q1.2)))
set_option maxHeartbeats 4000000 in
set_option maxRecDepth 100000 in
theorem rX9_stepsFrom_136 {ar : Nat → Nat → Nat} {c0 : Nat → Nat} {sz : Nat} {r : Int32} {w' : HS} {k3 : HS → Nat → Int32 → Int32 → Int32 → Int32 → Option (Int32 × HS)} {j3 : PH → Nat → Int32 → Int32 → Int32 → Int32 → Option (Int32 × PH)} (hk3 : ∀ (g : PH) (w : HS) (v0 : Nat) (v1 : Int32) (v2 : Int32) (v3 : Int32) (v4 : Int32), c0 v0 = 9 → Rel ar c0 sz g w → k3 w v0 v1 v2 v3 v4 = some (r, w') → GR ar c0 sz r w' (j3 g v0 v1 v2 v3 v4)) {g : PH} {w : HS} {v0 : Nat} {v1 : Int32} {v2 : Int32} {v3 : Int32} {v4 : Int32} {v5 : Int32} {v6 : Int32} {v8 : Int32} (h0 : c0 v0 = 9) (P : Rel ar c0 sz g w) (hF : FX9_stepsFrom_136 k3 w v0 v1 v2 v3 v4 v5 v6 v8 = some (r, w')) : GR ar c0 sz r w' (fX9_stepsFrom_136 j3 g v0 v1 v2 v3 v4 v5 v6 v8) := by
  unfold FX9_stepsFrom_136 at hF
  unfold fX9_stepsFrom_136
  replace hF := ob_some hF
  obtain ⟨q1, h2, hF⟩ := hF
  obtain ⟨g3, e4, P⟩ := rX9_comes (r := q1.1) (w' := q1.2) P h2
  refine GR.bind e4 ?_
  by_cases c5 : v8 = 0
  · replace hF := ite_t c5 hF
    refine GR.t c5 ?_
    exact rX9_stepsFrom_162 hk3 h0 P hF
  replace hF := ite_f c5 hF
  refine GR.f c5 ?_
  obtain ⟨f1, f2⟩ := finW hF
  subst f1
  subst f2
  exact GR.ret P
def FX9_stepsFrom_66 (k3 : HS → Nat → Int32 → Int32 → Int32 → Int32 → Option (Int32 × HS)) : Nat → HS → Nat → Int32 → Int32 → Int32 → Int32 → Int32 → Int32 → Int32 → Option (Int32 × HS)
  | 0, _, _, _, _, _, _, _, _, _ => none
  | n + 1, w, v0, v1, v2, v3, v4, v5, v6, v8 =>
  if (hi w v0 30) ≤ v8 then ((FX9_stateBuilt w v0).bind fun q2 =>
  (if q2.1 < 0 then ((FX9_isAllFailed q2.2 v0).bind fun q7 =>
  (if q7.1 = 0 then (if (hi q7.2 v0 29) = (1200 : Int32) then (some ((-3 : Int32), q7.2)) else
  (FX9_stepsFrom_136 (k3) q7.2 v0 v1 v2 v3 v4 v5 v6 q7.1)) else
  (FX9_stepsFrom_136 (k3) q7.2 v0 v1 v2 v3 v4 v5 v6 q7.1))) else
  (FX9_stepsFrom_162 (k3) q2.2 v0 v1 v2 v3 v4))) else
  ((FX9_machineBehind w v0 v1 v8 v5 v6 v2).bind fun q13 =>
  ((FX9_builds q13.2 v0 (v8 + (1 : Int32)) q13.1.toInt64).bind fun q17 =>
  (FX9_stepsFrom_66 k3 n q17.2 v0 v1 v2 v3 v4 v5 v6 (v8 + (1 : Int32)))))
set_option maxHeartbeats 4000000 in
set_option maxRecDepth 100000 in
theorem rX9_stepsFrom_66 {ar : Nat → Nat → Nat} {c0 : Nat → Nat} {sz : Nat} {r : Int32} {w' : HS} {k3 : HS → Nat → Int32 → Int32 → Int32 → Int32 → Option (Int32 × HS)} {j3 : PH → Nat → Int32 → Int32 → Int32 → Int32 → Option (Int32 × PH)} (hk3 : ∀ (g : PH) (w : HS) (v0 : Nat) (v1 : Int32) (v2 : Int32) (v3 : Int32) (v4 : Int32), c0 v0 = 9 → Rel ar c0 sz g w → k3 w v0 v1 v2 v3 v4 = some (r, w') → GR ar c0 sz r w' (j3 g v0 v1 v2 v3 v4)) : ∀ (n : Nat) (g : PH) (w : HS) (v0 : Nat) (v1 : Int32) (v2 : Int32) (v3 : Int32) (v4 : Int32) (v5 : Int32) (v6 : Int32) (v8 : Int32), c0 v0 = 9 → Rel ar c0 sz g w → FX9_stepsFrom_66 k3 n w v0 v1 v2 v3 v4 v5 v6 v8 = some (r, w') → GR ar c0 sz r w' (fX9_stepsFrom_66 j3 n g v0 v1 v2 v3 v4 v5 v6 v8) := by
  intro n
  induction n with
  | zero =>
    intro g w v0 v1 v2 v3 v4 v5 v6 v8 h0 P hF
    rw [FX9_stepsFrom_66] at hF
    cases hF
  | succ n ih =>
    intro g w v0 v1 v2 v3 v4 v5 v6 v8 h0 P hF
    rw [FX9_stepsFrom_66] at hF
    rw [fX9_stepsFrom_66]
    refine GR.bind (P.rI (k := 30) h0 (by decide) (by decide) (by decide)) ?_
    by_cases c1 : (hi w v0 30) ≤ v8
    · replace hF := ite_t c1 hF
      refine GR.t c1 ?_
      replace hF := ob_some hF
      obtain ⟨q2, h3, hF⟩ := hF
      obtain ⟨g4, e5, P⟩ := rX9_stateBuilt (r := q2.1) (w' := q2.2) P h3
      refine GR.bind e5 ?_
      by_cases c6 : q2.1 < 0
      · replace hF := ite_t c6 hF
        refine GR.t c6 ?_
        replace hF := ob_some hF
        obtain ⟨q7, h8, hF⟩ := hF
        obtain ⟨g9, e10, P⟩ := rX9_isAllFailed (r := q7.1) (w' := q7.2) P h8
        refine GR.bind e10 ?_
        by_cases c11 : q7.1 = 0
        · replace hF := ite_t c11 hF
          refine GR.t c11 ?_
          refine GR.bind (P.rI (k := 29) h0 (by decide) (by decide) (by decide)) ?_
          by_cases c12 : (hi q7.2 v0 29) = (1200 : Int32)
          · replace hF := ite_t c12 hF
            refine GR.t c12 ?_
            obtain ⟨f1, f2⟩ := finW hF
            subst f1
            subst f2
            exact GR.ret P
          replace hF := ite_f c12 hF
          refine GR.f c12 ?_
          exact rX9_stepsFrom_136 hk3 h0 P hF
        replace hF := ite_f c11 hF
        refine GR.f c11 ?_
        exact rX9_stepsFrom_136 hk3 h0 P hF
      replace hF := ite_f c6 hF
      refine GR.f c6 ?_
      exact rX9_stepsFrom_162 hk3 h0 P hF
    replace hF := ite_f c1 hF
    refine GR.f c1 ?_
    replace hF := ob_some hF
    obtain ⟨q13, h14, hF⟩ := hF
    obtain ⟨g15, e16, P⟩ := rX9_machineBehind (r := q13.1) (w' := q13.2) P h14
    refine GR.bind e16 ?_
    replace hF := ob_some hF
    obtain ⟨q17, h18, hF⟩ := hF
    obtain ⟨g19, e20, P⟩ := rX9_builds (r := q17.1) (w' := q17.2) P h18
    refine GR.bind e20 ?_
    exact ih _ _ _ _ _ _ _ _ _ _ h0 P hF
def FX9_stepsFrom_3  : Nat → HS → Nat → Int32 → Int32 → Int32 → Int32 → Option (Int32 × HS)
  | 0, _, _, _, _, _, _ => none
  | n + 1, w, v0, v1, v2, v3, v4 =>
  (FX9_pow w v2).bind fun q1 =>
  (if ((2 : Int32) * q1.1) ≤ v4 then (some ((0 : Int32), q1.2)) else
  ((FX9_pow q1.2 v2).bind fun q6 =>
  (okb (decide (¬ q6.1 = 0)) ((FX9_pow q6.2 v2).bind fun q11 =>
  (okb (decide (¬ q11.1 = 0)) ((FX9_partOf q11.2 v0 v1 (0 : Int32)).bind fun q16 =>
  ((FX9_soundBehind q16.2 v0 q16.1 (v4 - v4 / q11.1 * q11.1) v2).bind fun q20 =>
  (if 0 ≤ q20.1 then ((FX9_builds q20.2 v0 (0 : Int32) q20.1.toInt64).bind fun q25 =>
  (FX9_stepsFrom_66 (FX9_stepsFrom_3 n) FUEL q25.2 v0 v1 v2 v3 v4 (v4 / q6.1) (v4 - v4 / q11.1 * q11.1) (0 : Int32))) else
  (FX9_stepsFrom_162 (FX9_stepsFrom_3 n) q20.2 v0 v1 v2 v3 v4)))))))))
set_option maxHeartbeats 4000000 in
set_option maxRecDepth 100000 in
theorem rX9_stepsFrom_3 {ar : Nat → Nat → Nat} {c0 : Nat → Nat} {sz : Nat} {r : Int32} {w' : HS}   : ∀ (n : Nat) (g : PH) (w : HS) (v0 : Nat) (v1 : Int32) (v2 : Int32) (v3 : Int32) (v4 : Int32), c0 v0 = 9 → Rel ar c0 sz g w → FX9_stepsFrom_3  n w v0 v1 v2 v3 v4 = some (r, w') → GR ar c0 sz r w' (fX9_stepsFrom_3  n g v0 v1 v2 v3 v4) := by
  intro n
  induction n with
  | zero =>
    intro g w v0 v1 v2 v3 v4 h0 P hF
    rw [FX9_stepsFrom_3] at hF
    cases hF
  | succ n ih =>
    intro g w v0 v1 v2 v3 v4 h0 P hF
    rw [FX9_stepsFrom_3] at hF
    rw [fX9_stepsFrom_3]
    replace hF := ob_some hF
    obtain ⟨q1, h2, hF⟩ := hF
    obtain ⟨g3, e4, P⟩ := rX9_pow (r := q1.1) (w' := q1.2) P h2
    refine GR.bind e4 ?_
    by_cases c5 : ((2 : Int32) * q1.1) ≤ v4
    · replace hF := ite_t c5 hF
      refine GR.t c5 ?_
      obtain ⟨f1, f2⟩ := finW hF
      subst f1
      subst f2
      exact GR.ret P
    replace hF := ite_f c5 hF
    refine GR.f c5 ?_
    replace hF := ob_some hF
    obtain ⟨q6, h7, hF⟩ := hF
    obtain ⟨g8, e9, P⟩ := rX9_pow (r := q6.1) (w' := q6.2) P h7
    refine GR.bind e9 ?_
    replace hF := okb_some hF
    obtain ⟨h10, hF⟩ := hF
    refine GR.ok h10 ?_
    replace hF := ob_some hF
    obtain ⟨q11, h12, hF⟩ := hF
    obtain ⟨g13, e14, P⟩ := rX9_pow (r := q11.1) (w' := q11.2) P h12
    refine GR.bind e14 ?_
    replace hF := okb_some hF
    obtain ⟨h15, hF⟩ := hF
    refine GR.ok h15 ?_
    replace hF := ob_some hF
    obtain ⟨q16, h17, hF⟩ := hF
    obtain ⟨g18, e19, P⟩ := rX9_partOf (r := q16.1) (w' := q16.2) P h17
    refine GR.bind e19 ?_
    replace hF := ob_some hF
    obtain ⟨q20, h21, hF⟩ := hF
    obtain ⟨g22, e23, P⟩ := rX9_soundBehind (r := q20.1) (w' := q20.2) P h21
    refine GR.bind e23 ?_
    by_cases c24 : 0 ≤ q20.1
    · replace hF := ite_t c24 hF
      refine GR.t c24 ?_
      replace hF := ob_some hF
      obtain ⟨q25, h26, hF⟩ := hF
      obtain ⟨g27, e28, P⟩ := rX9_builds (r := q25.1) (w' := q25.2) P h26
      refine GR.bind e28 ?_
      exact rX9_stepsFrom_66 ih _ _ _ _ _ _ _ _ _ _ _ h0 P hF
    replace hF := ite_f c24 hF
    refine GR.f c24 ?_
    exact rX9_stepsFrom_162 ih h0 P hF
def FX9_stepsFrom (w : HS) (a0 : Nat) (a1 : Int32) (a2 : Int32) (a3 : Int32) : Option (Int32 × HS) :=
  okb (hc w a0 == 9) (FX9_stepsFrom_3 FUEL w a0 a1 a2 a3 (0 : Int32))
set_option maxHeartbeats 4000000 in
set_option maxRecDepth 100000 in
theorem rX9_stepsFrom {ar : Nat → Nat → Nat} {c0 : Nat → Nat} {sz : Nat} {g : PH} {w w' : HS} {a0 : Nat} {a1 : Int32} {a2 : Int32} {a3 : Int32} {r : Int32} (P : Rel ar c0 sz g w) (hF : FX9_stepsFrom w a0 a1 a2 a3 = some (r, w')) : GR ar c0 sz r w' (fX9_stepsFrom g a0 a1 a2 a3) := by
  unfold FX9_stepsFrom at hF
  unfold fX9_stepsFrom
  replace hF := okb_some hF
  obtain ⟨h0, hF⟩ := hF
  replace h0 := P.cls h0
  refine GR.ok (P.rO h0 (by decide)) ?_
  exact rX9_stepsFrom_3  _ _ _ _ _ _ _ _ h0 P hF
def FX9_searches_81 (k7 : HS → Nat → Int32 → Option (Int32 × HS)) (k15 : HS → Nat → Int32 → Int32 → Option (Int32 × HS)) (k28 : HS → Nat → Int32 → Int32 → Int32 → Option (Int32 × HS)) (w : HS) (v0 : Nat) (v2 : Int32) (v3 : Int32) (v4 : Int32) : Option (Int32 × HS) :=
  k28 w v0 v2 v3 (v4 + (1 : Int32))
set_option maxHeartbeats 4000000 in
set_option maxRecDepth 100000 in
theorem rX9_searches_81 {ar : Nat → Nat → Nat} {c0 : Nat → Nat} {sz : Nat} {r : Int32} {w' : HS} {k7 : HS → Nat → Int32 → Option (Int32 × HS)} {j7 : PH → Nat → Int32 → Option (Int32 × PH)} {k15 : HS → Nat → Int32 → Int32 → Option (Int32 × HS)} {j15 : PH → Nat → Int32 → Int32 → Option (Int32 × PH)} {k28 : HS → Nat → Int32 → Int32 → Int32 → Option (Int32 × HS)} {j28 : PH → Nat → Int32 → Int32 → Int32 → Option (Int32 × PH)} (hk7 : ∀ (g : PH) (w : HS) (v0 : Nat) (v2 : Int32), c0 v0 = 9 → Rel ar c0 sz g w → k7 w v0 v2 = some (r, w') → GR ar c0 sz r w' (j7 g v0 v2)) (hk15 : ∀ (g : PH) (w : HS) (v0 : Nat) (v2 : Int32) (v3 : Int32), c0 v0 = 9 → Rel ar c0 sz g w → k15 w v0 v2 v3 = some (r, w') → GR ar c0 sz r w' (j15 g v0 v2 v3)) (hk28 : ∀ (g : PH) (w : HS) (v0 : Nat) (v2 : Int32) (v3 : Int32) (v4 : Int32), c0 v0 = 9 → Rel ar c0 sz g w → k28 w v0 v2 v3 v4 = some (r, w') → GR ar c0 sz r w' (j28 g v0 v2 v3 v4)) {g : PH} {w : HS} {v0 : Nat} {v2 : Int32} {v3 : Int32} {v4 : Int32} (h0 : c0 v0 = 9) (P : Rel ar c0 sz g w) (hF : FX9_searches_81 k7 k15 k28 w v0 v2 v3 v4 = some (r, w')) : GR ar c0 sz r w' (fX9_searches_81 j7 j15 j28 g v0 v2 v3 v4) := by
  unfold FX9_searches_81 at hF
  unfold fX9_searches_81
  exact hk28 _ _ _ _ _ _ h0 P hF
def FX9_searches_28 (k7 : HS → Nat → Int32 → Option (Int32 × HS)) (k15 : HS → Nat → Int32 → Int32 → Option (Int32 × HS)) : Nat → HS → Nat → Int32 → Int32 → Int32 → Option (Int32 × HS)
  | 0, _, _, _, _, _ => none
  | n + 1, w, v0, v2, v3, v4 =>
  if (hi w v0 29) ≤ v4 then (k15 w v0 v2 (v3 + (1 : Int32))) else
  (okb (inb v4 1201) (if (ha w v0 26 v4.toNatClampNeg) = (v2 - v3) then ((FX9_stepsFrom w v0 v4 v3 v2).bind fun q4 =>
  (if q4.1 = 0 then (FX9_searches_81 (k7) (k15) (FX9_searches_28 k7 k15 n) q4.2 v0 v2 v3 v4) else
  (if q4.1 = (1 : Int32) then (some (v2, q4.2)) else
  (some ((-3 : Int32), q4.2))))) else
  (FX9_searches_81 (k7) (k15) (FX9_searches_28 k7 k15 n) w v0 v2 v3 v4)))
set_option maxHeartbeats 4000000 in
set_option maxRecDepth 100000 in
theorem rX9_searches_28 {ar : Nat → Nat → Nat} {c0 : Nat → Nat} {sz : Nat} {r : Int32} {w' : HS} {k7 : HS → Nat → Int32 → Option (Int32 × HS)} {j7 : PH → Nat → Int32 → Option (Int32 × PH)} {k15 : HS → Nat → Int32 → Int32 → Option (Int32 × HS)} {j15 : PH → Nat → Int32 → Int32 → Option (Int32 × PH)} (hk7 : ∀ (g : PH) (w : HS) (v0 : Nat) (v2 : Int32), c0 v0 = 9 → Rel ar c0 sz g w → k7 w v0 v2 = some (r, w') → GR ar c0 sz r w' (j7 g v0 v2)) (hk15 : ∀ (g : PH) (w : HS) (v0 : Nat) (v2 : Int32) (v3 : Int32), c0 v0 = 9 → Rel ar c0 sz g w → k15 w v0 v2 v3 = some (r, w') → GR ar c0 sz r w' (j15 g v0 v2 v3)) : ∀ (n : Nat) (g : PH) (w : HS) (v0 : Nat) (v2 : Int32) (v3 : Int32) (v4 : Int32), c0 v0 = 9 → Rel ar c0 sz g w → FX9_searches_28 k7 k15 n w v0 v2 v3 v4 = some (r, w') → GR ar c0 sz r w' (fX9_searches_28 j7 j15 n g v0 v2 v3 v4) := by
  intro n
  induction n with
  | zero =>
    intro g w v0 v2 v3 v4 h0 P hF
    rw [FX9_searches_28] at hF
    cases hF
  | succ n ih =>
    intro g w v0 v2 v3 v4 h0 P hF
    rw [FX9_searches_28] at hF
    rw [fX9_searches_28]
    refine GR.bind (P.rI (k := 29) h0 (by decide) (by decide) (by decide)) ?_
    by_cases c1 : (hi w v0 29) ≤ v4
    · replace hF := ite_t c1 hF
      refine GR.t c1 ?_
      exact hk15 _ _ _ _ _ h0 P hF
    replace hF := ite_f c1 hF
    refine GR.f c1 ?_
    refine GR.bind (P.getRa (k := 26) h0 (by decide) (by decide) (by decide)) ?_
    replace hF := okb_some hF
    obtain ⟨h2, hF⟩ := hF
    refine GR.bind (P.dI (k := 26) (n := v4.toNatClampNeg) h0 (by decide) (by decide) (by decide) (by decide) h2 rfl) ?_
    by_cases c3 : (ha w v0 26 v4.toNatClampNeg) = (v2 - v3)
    · replace hF := ite_t c3 hF
      refine GR.t c3 ?_
      replace hF := ob_some hF
      obtain ⟨q4, h5, hF⟩ := hF
      obtain ⟨g6, e7, P⟩ := rX9_stepsFrom (r := q4.1) (w' := q4.2) P h5
      refine GR.bind e7 ?_
      by_cases c8 : q4.1 = 0
      · replace hF := ite_t c8 hF
        refine GR.t c8 ?_
        exact rX9_searches_81 hk7 hk15 ih h0 P hF
      replace hF := ite_f c8 hF
      refine GR.f c8 ?_
      by_cases c9 : q4.1 = (1 : Int32)
      · replace hF := ite_t c9 hF
        refine GR.t c9 ?_
        obtain ⟨f1, f2⟩ := finW hF
        subst f1
        subst f2
        exact GR.ret P
      replace hF := ite_f c9 hF
      refine GR.f c9 ?_
      obtain ⟨f1, f2⟩ := finW hF
      subst f1
      subst f2
      exact GR.ret P
    replace hF := ite_f c3 hF
    refine GR.f c3 ?_
    exact rX9_searches_81 hk7 hk15 ih h0 P hF
def FX9_searches_93 (k7 : HS → Nat → Int32 → Option (Int32 × HS)) (w : HS) (v0 : Nat) (v2 : Int32) : Option (Int32 × HS) :=
  k7 w v0 (v2 + (1 : Int32))
set_option maxHeartbeats 4000000 in
set_option maxRecDepth 100000 in
theorem rX9_searches_93 {ar : Nat → Nat → Nat} {c0 : Nat → Nat} {sz : Nat} {r : Int32} {w' : HS} {k7 : HS → Nat → Int32 → Option (Int32 × HS)} {j7 : PH → Nat → Int32 → Option (Int32 × PH)} (hk7 : ∀ (g : PH) (w : HS) (v0 : Nat) (v2 : Int32), c0 v0 = 9 → Rel ar c0 sz g w → k7 w v0 v2 = some (r, w') → GR ar c0 sz r w' (j7 g v0 v2)) {g : PH} {w : HS} {v0 : Nat} {v2 : Int32} (h0 : c0 v0 = 9) (P : Rel ar c0 sz g w) (hF : FX9_searches_93 k7 w v0 v2 = some (r, w')) : GR ar c0 sz r w' (fX9_searches_93 j7 g v0 v2) := by
  unfold FX9_searches_93 at hF
  unfold fX9_searches_93
  exact hk7 _ _ _ _ h0 P hF
def FX9_searches_15 (k7 : HS → Nat → Int32 → Option (Int32 × HS)) : Nat → HS → Nat → Int32 → Int32 → Option (Int32 × HS)
  | 0, _, _, _, _ => none
  | n + 1, w, v0, v2, v3 =>
  if (3 : Int32) < v3 then (FX9_searches_93 (k7) w v0 v2) else
  (if v2 < v3 then (FX9_searches_93 (k7) w v0 v2) else
  (FX9_searches_28 (k7) (FX9_searches_15 k7 n) FUEL w v0 v2 v3 (0 : Int32)))
set_option maxHeartbeats 4000000 in
set_option maxRecDepth 100000 in
theorem rX9_searches_15 {ar : Nat → Nat → Nat} {c0 : Nat → Nat} {sz : Nat} {r : Int32} {w' : HS} {k7 : HS → Nat → Int32 → Option (Int32 × HS)} {j7 : PH → Nat → Int32 → Option (Int32 × PH)} (hk7 : ∀ (g : PH) (w : HS) (v0 : Nat) (v2 : Int32), c0 v0 = 9 → Rel ar c0 sz g w → k7 w v0 v2 = some (r, w') → GR ar c0 sz r w' (j7 g v0 v2)) : ∀ (n : Nat) (g : PH) (w : HS) (v0 : Nat) (v2 : Int32) (v3 : Int32), c0 v0 = 9 → Rel ar c0 sz g w → FX9_searches_15 k7 n w v0 v2 v3 = some (r, w') → GR ar c0 sz r w' (fX9_searches_15 j7 n g v0 v2 v3) := by
  intro n
  induction n with
  | zero =>
    intro g w v0 v2 v3 h0 P hF
    rw [FX9_searches_15] at hF
    cases hF
  | succ n ih =>
    intro g w v0 v2 v3 h0 P hF
    rw [FX9_searches_15] at hF
    rw [fX9_searches_15]
    by_cases c1 : (3 : Int32) < v3
    · replace hF := ite_t c1 hF
      refine GR.t c1 ?_
      exact rX9_searches_93 hk7 h0 P hF
    replace hF := ite_f c1 hF
    refine GR.f c1 ?_
    by_cases c2 : v2 < v3
    · replace hF := ite_t c2 hF
      refine GR.t c2 ?_
      exact rX9_searches_93 hk7 h0 P hF
    replace hF := ite_f c2 hF
    refine GR.f c2 ?_
    exact rX9_searches_28 hk7 ih _ _ _ _ _ _ _ h0 P hF
def FX9_searches_7  : Nat → HS → Nat → Int32 → Option (Int32 × HS)
  | 0, _, _, _ => none
  | n + 1, w, v0, v2 =>
  if (9 : Int32) < v2 then (some ((-2 : Int32), w)) else
  (FX9_searches_15 (FX9_searches_7 n) FUEL w v0 v2 (1 : Int32))
set_option maxHeartbeats 4000000 in
set_option maxRecDepth 100000 in
theorem rX9_searches_7 {ar : Nat → Nat → Nat} {c0 : Nat → Nat} {sz : Nat} {r : Int32} {w' : HS}   : ∀ (n : Nat) (g : PH) (w : HS) (v0 : Nat) (v2 : Int32), c0 v0 = 9 → Rel ar c0 sz g w → FX9_searches_7  n w v0 v2 = some (r, w') → GR ar c0 sz r w' (fX9_searches_7  n g v0 v2) := by
  intro n
  induction n with
  | zero =>
    intro g w v0 v2 h0 P hF
    rw [FX9_searches_7] at hF
    cases hF
  | succ n ih =>
    intro g w v0 v2 h0 P hF
    rw [FX9_searches_7] at hF
    rw [fX9_searches_7]
    by_cases c1 : (9 : Int32) < v2
    · replace hF := ite_t c1 hF
      refine GR.t c1 ?_
      obtain ⟨f1, f2⟩ := finW hF
      subst f1
      subst f2
      exact GR.ret P
    replace hF := ite_f c1 hF
    refine GR.f c1 ?_
    exact rX9_searches_15 ih _ _ _ _ _ _ h0 P hF
def FX9_searches (w : HS) (a0 : Nat) (a1 : Int32) : Option (Int32 × HS) :=
  okb (hc w a0 == 9) ((FX9_laysMachines w a0 a1).bind fun q1 =>
  (FX9_searches_7 FUEL q1.2 a0 (1 : Int32)))
set_option maxHeartbeats 4000000 in
set_option maxRecDepth 100000 in
theorem rX9_searches {ar : Nat → Nat → Nat} {c0 : Nat → Nat} {sz : Nat} {g : PH} {w w' : HS} {a0 : Nat} {a1 : Int32} {r : Int32} (P : Rel ar c0 sz g w) (hF : FX9_searches w a0 a1 = some (r, w')) : GR ar c0 sz r w' (fX9_searches g a0 a1) := by
  unfold FX9_searches at hF
  unfold fX9_searches
  replace hF := okb_some hF
  obtain ⟨h0, hF⟩ := hF
  replace h0 := P.cls h0
  refine GR.ok (P.rO h0 (by decide)) ?_
  replace hF := ob_some hF
  obtain ⟨q1, h2, hF⟩ := hF
  obtain ⟨g3, e4, P⟩ := rX9_laysMachines (r := q1.1) (w' := q1.2) P h2
  refine GR.bind e4 ?_
  exact rX9_searches_7  _ _ _ _ _ h0 P hF
def FX9_areKinds (w : HS) (a0 : Nat) (a1 : Int32) : Option (Int32 × HS) :=
  okb (hc w a0 == 9) ((FX9_isIn w a1.toInt64 (0 : Int64) (((1 : Int32) <<< ((hi w a0 7) &&& 31)) - (1 : Int32)).toInt64).bind fun q1 =>
  (okb (vp_nar .boolean q1.1 == q1.1) (some (q1.1, q1.2))))
set_option maxHeartbeats 4000000 in
set_option maxRecDepth 100000 in
theorem rX9_areKinds {ar : Nat → Nat → Nat} {c0 : Nat → Nat} {sz : Nat} {g : PH} {w w' : HS} {a0 : Nat} {a1 : Int32} {r : Int32} (P : Rel ar c0 sz g w) (hF : FX9_areKinds w a0 a1 = some (r, w')) : GR ar c0 sz r w' (fX9_areKinds g a0 a1) := by
  unfold FX9_areKinds at hF
  unfold fX9_areKinds
  replace hF := okb_some hF
  obtain ⟨h0, hF⟩ := hF
  replace h0 := P.cls h0
  refine GR.ok (P.rO h0 (by decide)) ?_
  refine GR.bind (P.rI (k := 7) h0 (by decide) (by decide) (by decide)) ?_
  replace hF := ob_some hF
  obtain ⟨q1, h2, hF⟩ := hF
  obtain ⟨g3, e4, P⟩ := rX9_isIn (r := q1.1) (w' := q1.2) P h2
  refine GR.bind e4 ?_
  replace hF := okb_some hF
  obtain ⟨h5, hF⟩ := hF
  refine GR.ok h5 ?_
  obtain ⟨f1, f2⟩ := finW hF
  subst f1
  subst f2
  exact GR.ret P
def FX9_leastOf (w : HS) (a0 : Nat) (a1 : Int32) : Option (Int32 × HS) :=
  okb (hc w a0 == 9) (if a1 = 0 then (some ((0 : Int32), w)) else
  ((FX9_beginsTwo w a0).bind fun q2 =>
  ((FX9_searches q2.2 a0 a1).bind fun q6 =>
  (bnd (setI q6.2 a0 15 q2.1) fun w10 =>
  ((FX9_laysBack w10 a0).bind fun q14 =>
  (some (q6.1, q14.2)))))))
set_option maxHeartbeats 4000000 in
set_option maxRecDepth 100000 in
theorem rX9_leastOf {ar : Nat → Nat → Nat} {c0 : Nat → Nat} {sz : Nat} {g : PH} {w w' : HS} {a0 : Nat} {a1 : Int32} {r : Int32} (P : Rel ar c0 sz g w) (hF : FX9_leastOf w a0 a1 = some (r, w')) : GR ar c0 sz r w' (fX9_leastOf g a0 a1) := by
  unfold FX9_leastOf at hF
  unfold fX9_leastOf
  replace hF := okb_some hF
  obtain ⟨h0, hF⟩ := hF
  replace h0 := P.cls h0
  refine GR.ok (P.rO h0 (by decide)) ?_
  by_cases c1 : a1 = 0
  · replace hF := ite_t c1 hF
    refine GR.t c1 ?_
    obtain ⟨f1, f2⟩ := finW hF
    subst f1
    subst f2
    exact GR.ret P
  replace hF := ite_f c1 hF
  refine GR.f c1 ?_
  replace hF := ob_some hF
  obtain ⟨q2, h3, hF⟩ := hF
  obtain ⟨g4, e5, P⟩ := rX9_beginsTwo (r := q2.1) (w' := q2.2) P h3
  refine GR.bind e5 ?_
  replace hF := ob_some hF
  obtain ⟨q6, h7, hF⟩ := hF
  obtain ⟨g8, e9, P⟩ := rX9_searches (r := q6.1) (w' := q6.2) P h7
  refine GR.bind e9 ?_
  replace hF := bnd_e hF
  obtain ⟨w10, e11, hF⟩ := hF
  obtain ⟨g12, e13, P⟩ := P.putI (k := 15) h0 (by decide) (by decide) (by decide) e11
  refine GR.bind e13 ?_
  replace hF := ob_some hF
  obtain ⟨q14, h15, hF⟩ := hF
  obtain ⟨g16, e17, P⟩ := rX9_laysBack (r := q14.1) (w' := q14.2) P h15
  refine GR.bind e17 ?_
  obtain ⟨f1, f2⟩ := finW hF
  subst f1
  subst f2
  exact GR.ret P
def FX9_least (w : HS) (a0 : Nat) (a1 : Int32) : Option (Int32 × HS) :=
  okb (hc w a0 == 9) ((FX9_areKinds w a0 a1).bind fun q1 =>
  (if q1.1 = 0 then (some ((-1 : Int32), q1.2)) else
  ((FX9_leastOf q1.2 a0 a1).bind fun q6 =>
  (some (q6.1, q6.2)))))
set_option maxHeartbeats 4000000 in
set_option maxRecDepth 100000 in
theorem rX9_least {ar : Nat → Nat → Nat} {c0 : Nat → Nat} {sz : Nat} {g : PH} {w w' : HS} {a0 : Nat} {a1 : Int32} {r : Int32} (P : Rel ar c0 sz g w) (hF : FX9_least w a0 a1 = some (r, w')) : GR ar c0 sz r w' (fX9_least g a0 a1) := by
  unfold FX9_least at hF
  unfold fX9_least
  replace hF := okb_some hF
  obtain ⟨h0, hF⟩ := hF
  replace h0 := P.cls h0
  refine GR.ok (P.rO h0 (by decide)) ?_
  replace hF := ob_some hF
  obtain ⟨q1, h2, hF⟩ := hF
  obtain ⟨g3, e4, P⟩ := rX9_areKinds (r := q1.1) (w' := q1.2) P h2
  refine GR.bind e4 ?_
  by_cases c5 : q1.1 = 0
  · replace hF := ite_t c5 hF
    refine GR.t c5 ?_
    obtain ⟨f1, f2⟩ := finW hF
    subst f1
    subst f2
    exact GR.ret P
  replace hF := ite_f c5 hF
  refine GR.f c5 ?_
  replace hF := ob_some hF
  obtain ⟨q6, h7, hF⟩ := hF
  obtain ⟨g8, e9, P⟩ := rX9_leastOf (r := q6.1) (w' := q6.2) P h7
  refine GR.bind e9 ?_
  obtain ⟨f1, f2⟩ := finW hF
  subst f1
  subst f2
  exact GR.ret P
def FX9_walkedOp_81 (k47 : HS → Nat → Int32 → Int32 → Int32 → Int32 → Int32 → Int32 → Option (Int32 × HS)) (w : HS) (v0 : Nat) (v2 : Int32) (v3 : Int32) (v4 : Int32) (v5 : Int32) (v7 : Int32) (s0 : Int32) : Option (Int32 × HS) :=
  k47 w v0 v2 v3 v4 v5 s0 (v7 + (1 : Int32))
set_option maxHeartbeats 4000000 in
set_option maxRecDepth 100000 in
theorem rX9_walkedOp_81 {ar : Nat → Nat → Nat} {c0 : Nat → Nat} {sz : Nat} {r : Int32} {w' : HS} {k47 : HS → Nat → Int32 → Int32 → Int32 → Int32 → Int32 → Int32 → Option (Int32 × HS)} {j47 : PH → Nat → Int32 → Int32 → Int32 → Int32 → Int32 → Int32 → Option (Int32 × PH)} (hk47 : ∀ (g : PH) (w : HS) (v0 : Nat) (v2 : Int32) (v3 : Int32) (v4 : Int32) (v5 : Int32) (v6 : Int32) (v7 : Int32), c0 v0 = 9 → Rel ar c0 sz g w → k47 w v0 v2 v3 v4 v5 v6 v7 = some (r, w') → GR ar c0 sz r w' (j47 g v0 v2 v3 v4 v5 v6 v7)) {g : PH} {w : HS} {v0 : Nat} {v2 : Int32} {v3 : Int32} {v4 : Int32} {v5 : Int32} {v7 : Int32} {s0 : Int32} (h0 : c0 v0 = 9) (P : Rel ar c0 sz g w) (hF : FX9_walkedOp_81 k47 w v0 v2 v3 v4 v5 v7 s0 = some (r, w')) : GR ar c0 sz r w' (fX9_walkedOp_81 j47 g v0 v2 v3 v4 v5 v7 s0) := by
  unfold FX9_walkedOp_81 at hF
  unfold fX9_walkedOp_81
  exact hk47 _ _ _ _ _ _ _ _ _ h0 P hF
def FX9_walkedOp_47  : Nat → HS → Nat → Int32 → Int32 → Int32 → Int32 → Int32 → Int32 → Option (Int32 × HS)
  | 0, _, _, _, _, _, _, _, _ => none
  | n + 1, w, v0, v2, v3, v4, v5, v6, v7 =>
  if v3 ≤ v7 then ((FX9_stepOp w v0 v5 v2 v3).bind fun q2 =>
  (if q2.1 = 0 then (some ((((10 : Int32) * v4) + v6), q2.2)) else
  (some ((((10 : Int32) * v4) + (q2.1 + (1 : Int32))), q2.2)))) else
  ((FX9_stepOp w v0 v5 v2 v7).bind fun q7 =>
  (if q7.1 = 0 then (FX9_walkedOp_81 (FX9_walkedOp_47 n) q7.2 v0 v2 v3 v4 v5 v7 v6) else
  ((FX9_stepOp q7.2 v0 v5 v2 v7).bind fun q12 =>
  (FX9_walkedOp_81 (FX9_walkedOp_47 n) q12.2 v0 v2 v3 v4 v5 v7 (q12.1 - (1 : Int32))))))
set_option maxHeartbeats 4000000 in
set_option maxRecDepth 100000 in
theorem rX9_walkedOp_47 {ar : Nat → Nat → Nat} {c0 : Nat → Nat} {sz : Nat} {r : Int32} {w' : HS}   : ∀ (n : Nat) (g : PH) (w : HS) (v0 : Nat) (v2 : Int32) (v3 : Int32) (v4 : Int32) (v5 : Int32) (v6 : Int32) (v7 : Int32), c0 v0 = 9 → Rel ar c0 sz g w → FX9_walkedOp_47  n w v0 v2 v3 v4 v5 v6 v7 = some (r, w') → GR ar c0 sz r w' (fX9_walkedOp_47  n g v0 v2 v3 v4 v5 v6 v7) := by
  intro n
  induction n with
  | zero =>
    intro g w v0 v2 v3 v4 v5 v6 v7 h0 P hF
    rw [FX9_walkedOp_47] at hF
    cases hF
  | succ n ih =>
    intro g w v0 v2 v3 v4 v5 v6 v7 h0 P hF
    rw [FX9_walkedOp_47] at hF
    rw [fX9_walkedOp_47]
    by_cases c1 : v3 ≤ v7
    · replace hF := ite_t c1 hF
      refine GR.t c1 ?_
      replace hF := ob_some hF
      obtain ⟨q2, h3, hF⟩ := hF
      obtain ⟨g4, e5, P⟩ := rX9_stepOp (r := q2.1) (w' := q2.2) P h3
      refine GR.bind e5 ?_
      by_cases c6 : q2.1 = 0
      · replace hF := ite_t c6 hF
        refine GR.t c6 ?_
        obtain ⟨f1, f2⟩ := finW hF
        subst f1
        subst f2
        exact GR.ret P
      replace hF := ite_f c6 hF
      refine GR.f c6 ?_
      obtain ⟨f1, f2⟩ := finW hF
      subst f1
      subst f2
      exact GR.ret P
    replace hF := ite_f c1 hF
    refine GR.f c1 ?_
    replace hF := ob_some hF
    obtain ⟨q7, h8, hF⟩ := hF
    obtain ⟨g9, e10, P⟩ := rX9_stepOp (r := q7.1) (w' := q7.2) P h8
    refine GR.bind e10 ?_
    by_cases c11 : q7.1 = 0
    · replace hF := ite_t c11 hF
      refine GR.t c11 ?_
      exact rX9_walkedOp_81 ih h0 P hF
    replace hF := ite_f c11 hF
    refine GR.f c11 ?_
    replace hF := ob_some hF
    obtain ⟨q12, h13, hF⟩ := hF
    obtain ⟨g14, e15, P⟩ := rX9_stepOp (r := q12.1) (w' := q12.2) P h13
    refine GR.bind e15 ?_
    exact rX9_walkedOp_81 ih h0 P hF
def FX9_walkedOp (w : HS) (a0 : Nat) (a1 : Int32) (a2 : Int32) (a3 : Int32) : Option (Int32 × HS) :=
  okb (hc w a0 == 9) (okb (inb a1 1201) (okb (inb a1 1201) (okb (inb a1 1201) ((FX9_partOf w a0 (ha w a0 27 a1.toNatClampNeg) (0 : Int32)).bind fun q4 =>
  (FX9_walkedOp_47 FUEL q4.2 a0 a2 a3 (((ha w a0 28 a1.toNatClampNeg) - (ha w a0 28 a1.toNatClampNeg) / (100 : Int32) * (100 : Int32)) / (27 : Int32)) (((ha w a0 28 a1.toNatClampNeg) - (ha w a0 28 a1.toNatClampNeg) / (100 : Int32) * (100 : Int32)) - ((27 : Int32) * (((ha w a0 28 a1.toNatClampNeg) - (ha w a0 28 a1.toNatClampNeg) / (100 : Int32) * (100 : Int32)) / (27 : Int32)))) q4.1 (0 : Int32))))))
set_option maxHeartbeats 4000000 in
set_option maxRecDepth 100000 in
theorem rX9_walkedOp {ar : Nat → Nat → Nat} {c0 : Nat → Nat} {sz : Nat} {g : PH} {w w' : HS} {a0 : Nat} {a1 : Int32} {a2 : Int32} {a3 : Int32} {r : Int32} (P : Rel ar c0 sz g w) (hF : FX9_walkedOp w a0 a1 a2 a3 = some (r, w')) : GR ar c0 sz r w' (fX9_walkedOp g a0 a1 a2 a3) := by
  unfold FX9_walkedOp at hF
  unfold fX9_walkedOp
  replace hF := okb_some hF
  obtain ⟨h0, hF⟩ := hF
  replace h0 := P.cls h0
  refine GR.ok (P.rO h0 (by decide)) ?_
  refine GR.bind (P.getRa (k := 28) h0 (by decide) (by decide) (by decide)) ?_
  replace hF := okb_some hF
  obtain ⟨h1, hF⟩ := hF
  refine GR.bind (P.dI (k := 28) (n := a1.toNatClampNeg) h0 (by decide) (by decide) (by decide) (by decide) h1 rfl) ?_
  refine GR.bind (P.getRa (k := 28) h0 (by decide) (by decide) (by decide)) ?_
  replace hF := okb_some hF
  obtain ⟨h2, hF⟩ := hF
  refine GR.bind (P.dI (k := 28) (n := a1.toNatClampNeg) h0 (by decide) (by decide) (by decide) (by decide) h2 rfl) ?_
  refine GR.bind (P.getRa (k := 27) h0 (by decide) (by decide) (by decide)) ?_
  replace hF := okb_some hF
  obtain ⟨h3, hF⟩ := hF
  refine GR.bind (P.dI (k := 27) (n := a1.toNatClampNeg) h0 (by decide) (by decide) (by decide) (by decide) h3 rfl) ?_
  replace hF := ob_some hF
  obtain ⟨q4, h5, hF⟩ := hF
  obtain ⟨g6, e7, P⟩ := rX9_partOf (r := q4.1) (w' := q4.2) P h5
  refine GR.bind e7 ?_
  exact rX9_walkedOp_47  _ _ _ _ _ _ _ _ _ _ h0 P hF
def FX9_walk_79  : Nat → HS → Nat → Int32 → Int32 → Int32 → Option (Int32 × HS)
  | 0, _, _, _, _, _ => none
  | n + 1, w, v0, v3, v4, v5 =>
  if v3 ≤ v5 then (some ((-2 : Int32), w)) else
  (okb (inb ((v3 - (1 : Int32)) - v5) 10) (okb (inb (ha w v0 34 ((v3 - (1 : Int32)) - v5).toNatClampNeg) 1201) (if ((ha w v0 28 (ha w v0 34 ((v3 - (1 : Int32)) - v5).toNatClampNeg).toNatClampNeg) / (100 : Int32)) ≤ v4 then (FX9_walk_79 n w v0 v3 (v4 - ((ha w v0 28 (ha w v0 34 ((v3 - (1 : Int32)) - v5).toNatClampNeg).toNatClampNeg) / (100 : Int32))) (v5 + (1 : Int32))) else
  ((FX9_walkedOp w v0 (ha w v0 34 ((v3 - (1 : Int32)) - v5).toNatClampNeg) ((ha w v0 28 (ha w v0 34 ((v3 - (1 : Int32)) - v5).toNatClampNeg).toNatClampNeg) / (100 : Int32)) v4).bind fun q5 =>
  (some ((((100 : Int32) * v5) + q5.1), q5.2))))))
set_option maxHeartbeats 4000000 in
set_option maxRecDepth 100000 in
theorem rX9_walk_79 {ar : Nat → Nat → Nat} {c0 : Nat → Nat} {sz : Nat} {r : Int32} {w' : HS}   : ∀ (n : Nat) (g : PH) (w : HS) (v0 : Nat) (v3 : Int32) (v4 : Int32) (v5 : Int32), c0 v0 = 9 → Rel ar c0 sz g w → FX9_walk_79  n w v0 v3 v4 v5 = some (r, w') → GR ar c0 sz r w' (fX9_walk_79  n g v0 v3 v4 v5) := by
  intro n
  induction n with
  | zero =>
    intro g w v0 v3 v4 v5 h0 P hF
    rw [FX9_walk_79] at hF
    cases hF
  | succ n ih =>
    intro g w v0 v3 v4 v5 h0 P hF
    rw [FX9_walk_79] at hF
    rw [fX9_walk_79]
    by_cases c1 : v3 ≤ v5
    · replace hF := ite_t c1 hF
      refine GR.t c1 ?_
      obtain ⟨f1, f2⟩ := finW hF
      subst f1
      subst f2
      exact GR.ret P
    replace hF := ite_f c1 hF
    refine GR.f c1 ?_
    refine GR.bind (P.getRa (k := 34) h0 (by decide) (by decide) (by decide)) ?_
    replace hF := okb_some hF
    obtain ⟨h2, hF⟩ := hF
    refine GR.bind (P.dI (k := 34) (n := ((v3 - (1 : Int32)) - v5).toNatClampNeg) h0 (by decide) (by decide) (by decide) (by decide) h2 rfl) ?_
    refine GR.bind (P.getRa (k := 28) h0 (by decide) (by decide) (by decide)) ?_
    replace hF := okb_some hF
    obtain ⟨h3, hF⟩ := hF
    refine GR.bind (P.dI (k := 28) (n := (ha w v0 34 ((v3 - (1 : Int32)) - v5).toNatClampNeg).toNatClampNeg) h0 (by decide) (by decide) (by decide) (by decide) h3 rfl) ?_
    by_cases c4 : ((ha w v0 28 (ha w v0 34 ((v3 - (1 : Int32)) - v5).toNatClampNeg).toNatClampNeg) / (100 : Int32)) ≤ v4
    · replace hF := ite_t c4 hF
      refine GR.t c4 ?_
      exact ih _ _ _ _ _ _ h0 P hF
    replace hF := ite_f c4 hF
    refine GR.f c4 ?_
    replace hF := ob_some hF
    obtain ⟨q5, h6, hF⟩ := hF
    obtain ⟨g7, e8, P⟩ := rX9_walkedOp (r := q5.1) (w' := q5.2) P h6
    refine GR.bind e8 ?_
    obtain ⟨f1, f2⟩ := finW hF
    subst f1
    subst f2
    exact GR.ret P
def FX9_walk_33  : Nat → HS → Nat → Int32 → Int32 → Int32 → Option (Int32 × HS)
  | 0, _, _, _, _, _ => none
  | n + 1, w, v0, v2, v3, v4 =>
  okb (inb v4 1201) (if (ha w v0 27 v4.toNatClampNeg) < 0 then (if v2 = (-1 : Int32) then (some (v3, w)) else
  (FX9_walk_79 FUEL w v0 v3 v2 (0 : Int32))) else
  (okb (inb v3 10) (bnd (setA w v0 34 v3.toNatClampNeg v4) fun w7 =>
  (okb (inb v4 1201) (FX9_walk_33 n w7 v0 v2 (v3 + (1 : Int32)) (ha w7 v0 27 v4.toNatClampNeg))))))
set_option maxHeartbeats 4000000 in
set_option maxRecDepth 100000 in
theorem rX9_walk_33 {ar : Nat → Nat → Nat} {c0 : Nat → Nat} {sz : Nat} {r : Int32} {w' : HS}   : ∀ (n : Nat) (g : PH) (w : HS) (v0 : Nat) (v2 : Int32) (v3 : Int32) (v4 : Int32), c0 v0 = 9 → Rel ar c0 sz g w → FX9_walk_33  n w v0 v2 v3 v4 = some (r, w') → GR ar c0 sz r w' (fX9_walk_33  n g v0 v2 v3 v4) := by
  intro n
  induction n with
  | zero =>
    intro g w v0 v2 v3 v4 h0 P hF
    rw [FX9_walk_33] at hF
    cases hF
  | succ n ih =>
    intro g w v0 v2 v3 v4 h0 P hF
    rw [FX9_walk_33] at hF
    rw [fX9_walk_33]
    refine GR.bind (P.getRa (k := 27) h0 (by decide) (by decide) (by decide)) ?_
    replace hF := okb_some hF
    obtain ⟨h1, hF⟩ := hF
    refine GR.bind (P.dI (k := 27) (n := v4.toNatClampNeg) h0 (by decide) (by decide) (by decide) (by decide) h1 rfl) ?_
    by_cases c2 : (ha w v0 27 v4.toNatClampNeg) < 0
    · replace hF := ite_t c2 hF
      refine GR.t c2 ?_
      by_cases c3 : v2 = (-1 : Int32)
      · replace hF := ite_t c3 hF
        refine GR.t c3 ?_
        obtain ⟨f1, f2⟩ := finW hF
        subst f1
        subst f2
        exact GR.ret P
      replace hF := ite_f c3 hF
      refine GR.f c3 ?_
      exact rX9_walk_79  _ _ _ _ _ _ _ h0 P hF
    replace hF := ite_f c2 hF
    refine GR.f c2 ?_
    refine GR.bind (P.getRa (k := 34) h0 (by decide) (by decide) (by decide)) ?_
    replace hF := okb_some hF
    obtain ⟨h4, hF⟩ := hF
    replace hF := bnd_e hF
    obtain ⟨w7, e8, hF⟩ := hF
    obtain ⟨g5, e6, P⟩ := P.sI (k := 34) (kd := 0) (j := v3) h0 (by decide) (by decide) (by decide) (by decide) h4 rfl e8
    refine GR.bind e6 ?_
    refine GR.bind (P.getRa (k := 27) h0 (by decide) (by decide) (by decide)) ?_
    replace hF := okb_some hF
    obtain ⟨h9, hF⟩ := hF
    refine GR.bind (P.dI (k := 27) (n := v4.toNatClampNeg) h0 (by decide) (by decide) (by decide) (by decide) h9 rfl) ?_
    exact ih _ _ _ _ _ _ h0 P hF
def FX9_walk (w : HS) (a0 : Nat) (a1 : Int32) (a2 : Int32) : Option (Int32 × HS) :=
  okb (hc w a0 == 9) (if a2 < (-1 : Int32) then (some ((-1 : Int32), w)) else
  ((FX9_areKinds w a0 a1).bind fun q2 =>
  (if q2.1 = 0 then (some ((-1 : Int32), q2.2)) else
  ((FX9_leastOf q2.2 a0 a1).bind fun q7 =>
  (if 0 < q7.1 then (FX9_walk_33 FUEL q7.2 a0 a2 (0 : Int32) ((hi q7.2 a0 29) - (1 : Int32))) else
  (some ((-1 : Int32), q7.2)))))))
set_option maxHeartbeats 4000000 in
set_option maxRecDepth 100000 in
theorem rX9_walk {ar : Nat → Nat → Nat} {c0 : Nat → Nat} {sz : Nat} {g : PH} {w w' : HS} {a0 : Nat} {a1 : Int32} {a2 : Int32} {r : Int32} (P : Rel ar c0 sz g w) (hF : FX9_walk w a0 a1 a2 = some (r, w')) : GR ar c0 sz r w' (fX9_walk g a0 a1 a2) := by
  unfold FX9_walk at hF
  unfold fX9_walk
  replace hF := okb_some hF
  obtain ⟨h0, hF⟩ := hF
  replace h0 := P.cls h0
  refine GR.ok (P.rO h0 (by decide)) ?_
  by_cases c1 : a2 < (-1 : Int32)
  · replace hF := ite_t c1 hF
    refine GR.t c1 ?_
    obtain ⟨f1, f2⟩ := finW hF
    subst f1
    subst f2
    exact GR.ret P
  replace hF := ite_f c1 hF
  refine GR.f c1 ?_
  replace hF := ob_some hF
  obtain ⟨q2, h3, hF⟩ := hF
  obtain ⟨g4, e5, P⟩ := rX9_areKinds (r := q2.1) (w' := q2.2) P h3
  refine GR.bind e5 ?_
  by_cases c6 : q2.1 = 0
  · replace hF := ite_t c6 hF
    refine GR.t c6 ?_
    obtain ⟨f1, f2⟩ := finW hF
    subst f1
    subst f2
    exact GR.ret P
  replace hF := ite_f c6 hF
  refine GR.f c6 ?_
  replace hF := ob_some hF
  obtain ⟨q7, h8, hF⟩ := hF
  obtain ⟨g9, e10, P⟩ := rX9_leastOf (r := q7.1) (w' := q7.2) P h8
  refine GR.bind e10 ?_
  by_cases c11 : 0 < q7.1
  · replace hF := ite_t c11 hF
    refine GR.t c11 ?_
    refine GR.bind (P.rI (k := 29) h0 (by decide) (by decide) (by decide)) ?_
    exact rX9_walk_33  _ _ _ _ _ _ _ h0 P hF
  replace hF := ite_f c11 hF
  refine GR.f c11 ?_
  obtain ⟨f1, f2⟩ := finW hF
  subst f1
  subst f2
  exact GR.ret P
def FX9_memory (w : HS) (a0 : Nat) (a1 : Int32) : Option (Int32 × HS) :=
  okb (hc w a0 == 9) ((FX9_isIn w a1.toInt64 (2 : Int64) (6 : Int64)).bind fun q1 =>
  (if q1.1 = 0 then (some ((0 : Int32), q1.2)) else
  ((FX9_begins q1.2 a0 a1).bind fun q6 =>
  (some ((1 : Int32), q6.2)))))
set_option maxHeartbeats 4000000 in
set_option maxRecDepth 100000 in
theorem rX9_memory {ar : Nat → Nat → Nat} {c0 : Nat → Nat} {sz : Nat} {g : PH} {w w' : HS} {a0 : Nat} {a1 : Int32} {r : Int32} (P : Rel ar c0 sz g w) (hF : FX9_memory w a0 a1 = some (r, w')) : GR ar c0 sz r w' (fX9_memory g a0 a1) := by
  unfold FX9_memory at hF
  unfold fX9_memory
  replace hF := okb_some hF
  obtain ⟨h0, hF⟩ := hF
  replace h0 := P.cls h0
  refine GR.ok (P.rO h0 (by decide)) ?_
  replace hF := ob_some hF
  obtain ⟨q1, h2, hF⟩ := hF
  obtain ⟨g3, e4, P⟩ := rX9_isIn (r := q1.1) (w' := q1.2) P h2
  refine GR.bind e4 ?_
  by_cases c5 : q1.1 = 0
  · replace hF := ite_t c5 hF
    refine GR.t c5 ?_
    obtain ⟨f1, f2⟩ := finW hF
    subst f1
    subst f2
    exact GR.ret P
  replace hF := ite_f c5 hF
  refine GR.f c5 ?_
  replace hF := ob_some hF
  obtain ⟨q6, h7, hF⟩ := hF
  obtain ⟨g8, e9, P⟩ := rX9_begins (r := q6.1) (w' := q6.2) P h7
  refine GR.bind e9 ?_
  obtain ⟨f1, f2⟩ := finW hF
  subst f1
  subst f2
  exact GR.ret P
def FX9_keepsAct_54  : Nat → HS → Nat → Int32 → Option (Unit × HS)
  | 0, _, _, _ => none
  | n + 1, w, v0, v1 =>
  if (133 : Int32) ≤ v1 then (bnd (setI w v0 19 ((hi w v0 19) + (1 : Int32))) fun w2 =>
  (some ((), w2))) else
  (okb (inb v1 133) (okb (inb (((133 : Int32) * (hi w v0 19)) + v1) 2660) (bnd (setA w v0 18 (((133 : Int32) * (hi w v0 19)) + v1).toNatClampNeg (ha w v0 16 v1.toNatClampNeg)) fun w10 =>
  (FX9_keepsAct_54 n w10 v0 (v1 + (1 : Int32))))))
set_option maxHeartbeats 4000000 in
set_option maxRecDepth 100000 in
theorem rX9_keepsAct_54 {ar : Nat → Nat → Nat} {c0 : Nat → Nat} {sz : Nat} {r : Unit} {w' : HS}   : ∀ (n : Nat) (g : PH) (w : HS) (v0 : Nat) (v1 : Int32), c0 v0 = 9 → Rel ar c0 sz g w → FX9_keepsAct_54  n w v0 v1 = some (r, w') → GR ar c0 sz r w' (fX9_keepsAct_54  n g v0 v1) := by
  intro n
  induction n with
  | zero =>
    intro g w v0 v1 h0 P hF
    rw [FX9_keepsAct_54] at hF
    cases hF
  | succ n ih =>
    intro g w v0 v1 h0 P hF
    rw [FX9_keepsAct_54] at hF
    rw [fX9_keepsAct_54]
    by_cases c1 : (133 : Int32) ≤ v1
    · replace hF := ite_t c1 hF
      refine GR.t c1 ?_
      refine GR.bind (P.rI (k := 19) h0 (by decide) (by decide) (by decide)) ?_
      replace hF := bnd_e hF
      obtain ⟨w2, e3, hF⟩ := hF
      obtain ⟨g4, e5, P⟩ := P.putI (k := 19) h0 (by decide) (by decide) (by decide) e3
      refine GR.bind e5 ?_
      obtain ⟨f1, f2⟩ := finW hF
      subst f1
      subst f2
      exact GR.ret P
    replace hF := ite_f c1 hF
    refine GR.f c1 ?_
    refine GR.bind (P.getRa (k := 18) h0 (by decide) (by decide) (by decide)) ?_
    refine GR.bind (P.rI (k := 19) h0 (by decide) (by decide) (by decide)) ?_
    refine GR.bind (P.getRa (k := 16) h0 (by decide) (by decide) (by decide)) ?_
    replace hF := okb_some hF
    obtain ⟨h6, hF⟩ := hF
    refine GR.bind (P.dI (k := 16) (n := v1.toNatClampNeg) h0 (by decide) (by decide) (by decide) (by decide) h6 rfl) ?_
    replace hF := okb_some hF
    obtain ⟨h7, hF⟩ := hF
    replace hF := bnd_e hF
    obtain ⟨w10, e11, hF⟩ := hF
    obtain ⟨g8, e9, P⟩ := P.sI (k := 18) (kd := 0) (j := (((133 : Int32) * (hi w v0 19)) + v1)) h0 (by decide) (by decide) (by decide) (by decide) h7 rfl e11
    refine GR.bind e9 ?_
    exact ih _ _ _ _ h0 P hF
def FX9_keepsAct_52  (w : HS) (v0 : Nat) : Option (Unit × HS) :=
  FX9_keepsAct_54 FUEL w v0 (0 : Int32)
set_option maxHeartbeats 4000000 in
set_option maxRecDepth 100000 in
theorem rX9_keepsAct_52 {ar : Nat → Nat → Nat} {c0 : Nat → Nat} {sz : Nat} {r : Unit} {w' : HS}   {g : PH} {w : HS} {v0 : Nat} (h0 : c0 v0 = 9) (P : Rel ar c0 sz g w) (hF : FX9_keepsAct_52  w v0 = some (r, w')) : GR ar c0 sz r w' (fX9_keepsAct_52  g v0) := by
  unfold FX9_keepsAct_52 at hF
  unfold fX9_keepsAct_52
  exact rX9_keepsAct_54  _ _ _ _ _ h0 P hF
def FX9_keepsAct_13  : Nat → HS → Nat → Int32 → Option (Unit × HS)
  | 0, _, _, _ => none
  | n + 1, w, v0, v1 =>
  if (2660 : Int32) ≤ v1 then (bnd (setI w v0 19 ((hi w v0 19) - (1 : Int32))) fun w2 =>
  (FX9_keepsAct_52 w2 v0)) else
  (okb (inb v1 2660) (okb (inb (v1 - (133 : Int32)) 2660) (bnd (setA w v0 18 (v1 - (133 : Int32)).toNatClampNeg (ha w v0 18 v1.toNatClampNeg)) fun w10 =>
  (FX9_keepsAct_13 n w10 v0 (v1 + (1 : Int32))))))
set_option maxHeartbeats 4000000 in
set_option maxRecDepth 100000 in
theorem rX9_keepsAct_13 {ar : Nat → Nat → Nat} {c0 : Nat → Nat} {sz : Nat} {r : Unit} {w' : HS}   : ∀ (n : Nat) (g : PH) (w : HS) (v0 : Nat) (v1 : Int32), c0 v0 = 9 → Rel ar c0 sz g w → FX9_keepsAct_13  n w v0 v1 = some (r, w') → GR ar c0 sz r w' (fX9_keepsAct_13  n g v0 v1) := by
  intro n
  induction n with
  | zero =>
    intro g w v0 v1 h0 P hF
    rw [FX9_keepsAct_13] at hF
    cases hF
  | succ n ih =>
    intro g w v0 v1 h0 P hF
    rw [FX9_keepsAct_13] at hF
    rw [fX9_keepsAct_13]
    by_cases c1 : (2660 : Int32) ≤ v1
    · replace hF := ite_t c1 hF
      refine GR.t c1 ?_
      refine GR.bind (P.rI (k := 19) h0 (by decide) (by decide) (by decide)) ?_
      replace hF := bnd_e hF
      obtain ⟨w2, e3, hF⟩ := hF
      obtain ⟨g4, e5, P⟩ := P.putI (k := 19) h0 (by decide) (by decide) (by decide) e3
      refine GR.bind e5 ?_
      exact rX9_keepsAct_52  h0 P hF
    replace hF := ite_f c1 hF
    refine GR.f c1 ?_
    refine GR.bind (P.getRa (k := 18) h0 (by decide) (by decide) (by decide)) ?_
    refine GR.bind (P.getRa (k := 18) h0 (by decide) (by decide) (by decide)) ?_
    replace hF := okb_some hF
    obtain ⟨h6, hF⟩ := hF
    refine GR.bind (P.dI (k := 18) (n := v1.toNatClampNeg) h0 (by decide) (by decide) (by decide) (by decide) h6 rfl) ?_
    replace hF := okb_some hF
    obtain ⟨h7, hF⟩ := hF
    replace hF := bnd_e hF
    obtain ⟨w10, e11, hF⟩ := hF
    obtain ⟨g8, e9, P⟩ := P.sI (k := 18) (kd := 0) (j := (v1 - (133 : Int32))) h0 (by decide) (by decide) (by decide) (by decide) h7 rfl e11
    refine GR.bind e9 ?_
    exact ih _ _ _ _ h0 P hF
def FX9_keepsAct (w : HS) (a0 : Nat) : Option (Unit × HS) :=
  okb (hc w a0 == 9) (if (hi w a0 19) = (20 : Int32) then (FX9_keepsAct_13 FUEL w a0 (133 : Int32)) else
  (FX9_keepsAct_52 w a0))
set_option maxHeartbeats 4000000 in
set_option maxRecDepth 100000 in
theorem rX9_keepsAct {ar : Nat → Nat → Nat} {c0 : Nat → Nat} {sz : Nat} {g : PH} {w w' : HS} {a0 : Nat} {r : Unit} (P : Rel ar c0 sz g w) (hF : FX9_keepsAct w a0 = some (r, w')) : GR ar c0 sz r w' (fX9_keepsAct g a0) := by
  unfold FX9_keepsAct at hF
  unfold fX9_keepsAct
  replace hF := okb_some hF
  obtain ⟨h0, hF⟩ := hF
  replace h0 := P.cls h0
  refine GR.ok (P.rO h0 (by decide)) ?_
  refine GR.bind (P.rI (k := 19) h0 (by decide) (by decide) (by decide)) ?_
  by_cases c1 : (hi w a0 19) = (20 : Int32)
  · replace hF := ite_t c1 hF
    refine GR.t c1 ?_
    exact rX9_keepsAct_13  _ _ _ _ _ h0 P hF
  replace hF := ite_f c1 hF
  refine GR.f c1 ?_
  exact rX9_keepsAct_52  h0 P hF
def FX9_undo_21  : Nat → HS → Nat → Int32 → Option (Int32 × HS)
  | 0, _, _, _ => none
  | n + 1, w, v0, v1 =>
  if (133 : Int32) ≤ v1 then (some ((hi w v0 19), w)) else
  (okb (inb (((133 : Int32) * (hi w v0 19)) + v1) 2660) (okb (inb v1 133) (bnd (setA w v0 16 v1.toNatClampNeg (ha w v0 18 (((133 : Int32) * (hi w v0 19)) + v1).toNatClampNeg)) fun w6 =>
  (FX9_undo_21 n w6 v0 (v1 + (1 : Int32))))))
set_option maxHeartbeats 4000000 in
set_option maxRecDepth 100000 in
theorem rX9_undo_21 {ar : Nat → Nat → Nat} {c0 : Nat → Nat} {sz : Nat} {r : Int32} {w' : HS}   : ∀ (n : Nat) (g : PH) (w : HS) (v0 : Nat) (v1 : Int32), c0 v0 = 9 → Rel ar c0 sz g w → FX9_undo_21  n w v0 v1 = some (r, w') → GR ar c0 sz r w' (fX9_undo_21  n g v0 v1) := by
  intro n
  induction n with
  | zero =>
    intro g w v0 v1 h0 P hF
    rw [FX9_undo_21] at hF
    cases hF
  | succ n ih =>
    intro g w v0 v1 h0 P hF
    rw [FX9_undo_21] at hF
    rw [fX9_undo_21]
    by_cases c1 : (133 : Int32) ≤ v1
    · replace hF := ite_t c1 hF
      refine GR.t c1 ?_
      refine GR.bind (P.rI (k := 19) h0 (by decide) (by decide) (by decide)) ?_
      obtain ⟨f1, f2⟩ := finW hF
      subst f1
      subst f2
      exact GR.ret P
    replace hF := ite_f c1 hF
    refine GR.f c1 ?_
    refine GR.bind (P.getRa (k := 16) h0 (by decide) (by decide) (by decide)) ?_
    refine GR.bind (P.getRa (k := 18) h0 (by decide) (by decide) (by decide)) ?_
    refine GR.bind (P.rI (k := 19) h0 (by decide) (by decide) (by decide)) ?_
    replace hF := okb_some hF
    obtain ⟨h2, hF⟩ := hF
    refine GR.bind (P.dI (k := 18) (n := (((133 : Int32) * (hi w v0 19)) + v1).toNatClampNeg) h0 (by decide) (by decide) (by decide) (by decide) h2 rfl) ?_
    replace hF := okb_some hF
    obtain ⟨h3, hF⟩ := hF
    replace hF := bnd_e hF
    obtain ⟨w6, e7, hF⟩ := hF
    obtain ⟨g4, e5, P⟩ := P.sI (k := 16) (kd := 0) (j := v1) h0 (by decide) (by decide) (by decide) (by decide) h3 rfl e7
    refine GR.bind e5 ?_
    exact ih _ _ _ _ h0 P hF
def FX9_undo (w : HS) (a0 : Nat) : Option (Int32 × HS) :=
  okb (hc w a0 == 9) (if (hi w a0 19) = 0 then (some ((-1 : Int32), w)) else
  (bnd (setI w a0 19 ((hi w a0 19) - (1 : Int32))) fun w2 =>
  (FX9_undo_21 FUEL w2 a0 (0 : Int32))))
set_option maxHeartbeats 4000000 in
set_option maxRecDepth 100000 in
theorem rX9_undo {ar : Nat → Nat → Nat} {c0 : Nat → Nat} {sz : Nat} {g : PH} {w w' : HS} {a0 : Nat} {r : Int32} (P : Rel ar c0 sz g w) (hF : FX9_undo w a0 = some (r, w')) : GR ar c0 sz r w' (fX9_undo g a0) := by
  unfold FX9_undo at hF
  unfold fX9_undo
  replace hF := okb_some hF
  obtain ⟨h0, hF⟩ := hF
  replace h0 := P.cls h0
  refine GR.ok (P.rO h0 (by decide)) ?_
  refine GR.bind (P.rI (k := 19) h0 (by decide) (by decide) (by decide)) ?_
  by_cases c1 : (hi w a0 19) = 0
  · replace hF := ite_t c1 hF
    refine GR.t c1 ?_
    obtain ⟨f1, f2⟩ := finW hF
    subst f1
    subst f2
    exact GR.ret P
  replace hF := ite_f c1 hF
  refine GR.f c1 ?_
  refine GR.bind (P.rI (k := 19) h0 (by decide) (by decide) (by decide)) ?_
  replace hF := bnd_e hF
  obtain ⟨w2, e3, hF⟩ := hF
  obtain ⟨g4, e5, P⟩ := P.putI (k := 19) h0 (by decide) (by decide) (by decide) e3
  refine GR.bind e5 ?_
  exact rX9_undo_21  _ _ _ _ _ h0 P hF
def FX9_isCell (w : HS) (a0 : Nat) (a1 : Int32) : Option (Int32 × HS) :=
  okb (hc w a0 == 9) (if a1 < 0 then (some ((0 : Int32), w)) else
  (if (hi w a0 15) ≤ a1 then (some ((0 : Int32), w)) else
  (some ((1 : Int32), w))))
set_option maxHeartbeats 4000000 in
set_option maxRecDepth 100000 in
theorem rX9_isCell {ar : Nat → Nat → Nat} {c0 : Nat → Nat} {sz : Nat} {g : PH} {w w' : HS} {a0 : Nat} {a1 : Int32} {r : Int32} (P : Rel ar c0 sz g w) (hF : FX9_isCell w a0 a1 = some (r, w')) : GR ar c0 sz r w' (fX9_isCell g a0 a1) := by
  unfold FX9_isCell at hF
  unfold fX9_isCell
  replace hF := okb_some hF
  obtain ⟨h0, hF⟩ := hF
  replace h0 := P.cls h0
  refine GR.ok (P.rO h0 (by decide)) ?_
  by_cases c1 : a1 < 0
  · replace hF := ite_t c1 hF
    refine GR.t c1 ?_
    obtain ⟨f1, f2⟩ := finW hF
    subst f1
    subst f2
    exact GR.ret P
  replace hF := ite_f c1 hF
  refine GR.f c1 ?_
  refine GR.bind (P.rI (k := 15) h0 (by decide) (by decide) (by decide)) ?_
  by_cases c2 : (hi w a0 15) ≤ a1
  · replace hF := ite_t c2 hF
    refine GR.t c2 ?_
    obtain ⟨f1, f2⟩ := finW hF
    subst f1
    subst f2
    exact GR.ret P
  replace hF := ite_f c2 hF
  refine GR.f c2 ?_
  obtain ⟨f1, f2⟩ := finW hF
  subst f1
  subst f2
  exact GR.ret P
def FX9_put_47  (w : HS) (v0 : Nat) (v1 : Int32) (v2 : Int32) (v3 : Int32) : Option (Int32 × HS) :=
  (FX9_keepsAct w v0).bind fun q1 =>
  ((FX9_tries q1.2 v0 v1 v2 v3 (ha q1.2 v0 16 0)).bind fun q5 =>
  (some ((1 : Int32), q5.2)))
set_option maxHeartbeats 4000000 in
set_option maxRecDepth 100000 in
theorem rX9_put_47 {ar : Nat → Nat → Nat} {c0 : Nat → Nat} {sz : Nat} {r : Int32} {w' : HS}   {g : PH} {w : HS} {v0 : Nat} {v1 : Int32} {v2 : Int32} {v3 : Int32} (h0 : c0 v0 = 9) (P : Rel ar c0 sz g w) (hF : FX9_put_47  w v0 v1 v2 v3 = some (r, w')) : GR ar c0 sz r w' (fX9_put_47  g v0 v1 v2 v3) := by
  unfold FX9_put_47 at hF
  unfold fX9_put_47
  replace hF := ob_some hF
  obtain ⟨q1, h2, hF⟩ := hF
  obtain ⟨g3, e4, P⟩ := rX9_keepsAct (r := q1.1) (w' := q1.2) P h2
  refine GR.bind e4 ?_
  refine GR.bind (P.getRa (k := 16) h0 (by decide) (by decide) (by decide)) ?_
  refine GR.bind (P.dI (k := 16) (n := 0) h0 (by decide) (by decide) (by decide) (by decide) (by decide) (by decide)) ?_
  replace hF := ob_some hF
  obtain ⟨q5, h6, hF⟩ := hF
  obtain ⟨g7, e8, P⟩ := rX9_tries (r := q5.1) (w' := q5.2) P h6
  refine GR.bind e8 ?_
  obtain ⟨f1, f2⟩ := finW hF
  subst f1
  subst f2
  exact GR.ret P
def FX9_put (w : HS) (a0 : Nat) (a1 : Int32) (a2 : Int32) (a3 : Int32) : Option (Int32 × HS) :=
  okb (hc w a0 == 9) ((FX9_isKind w a0 a1).bind fun q1 =>
  (if q1.1 = 0 then (some ((0 : Int32), q1.2)) else
  ((FX9_isCell q1.2 a0 a3).bind fun q6 =>
  (if q6.1 = 0 then (some ((0 : Int32), q6.2)) else
  ((FX9_isPair q6.2 a0 a1).bind fun q11 =>
  (if q11.1 = 0 then (if a2 = (-1 : Int32) then (FX9_put_47 q11.2 a0 a1 a2 a3) else
  (some ((0 : Int32), q11.2))) else
  ((FX9_isCell q11.2 a0 a2).bind fun q17 =>
  (if q17.1 = 0 then (some ((0 : Int32), q17.2)) else
  (if a2 = a3 then (some ((0 : Int32), q17.2)) else
  (FX9_put_47 q17.2 a0 a1 a2 a3))))))))))
set_option maxHeartbeats 4000000 in
set_option maxRecDepth 100000 in
theorem rX9_put {ar : Nat → Nat → Nat} {c0 : Nat → Nat} {sz : Nat} {g : PH} {w w' : HS} {a0 : Nat} {a1 : Int32} {a2 : Int32} {a3 : Int32} {r : Int32} (P : Rel ar c0 sz g w) (hF : FX9_put w a0 a1 a2 a3 = some (r, w')) : GR ar c0 sz r w' (fX9_put g a0 a1 a2 a3) := by
  unfold FX9_put at hF
  unfold fX9_put
  replace hF := okb_some hF
  obtain ⟨h0, hF⟩ := hF
  replace h0 := P.cls h0
  refine GR.ok (P.rO h0 (by decide)) ?_
  replace hF := ob_some hF
  obtain ⟨q1, h2, hF⟩ := hF
  obtain ⟨g3, e4, P⟩ := rX9_isKind (r := q1.1) (w' := q1.2) P h2
  refine GR.bind e4 ?_
  by_cases c5 : q1.1 = 0
  · replace hF := ite_t c5 hF
    refine GR.t c5 ?_
    obtain ⟨f1, f2⟩ := finW hF
    subst f1
    subst f2
    exact GR.ret P
  replace hF := ite_f c5 hF
  refine GR.f c5 ?_
  replace hF := ob_some hF
  obtain ⟨q6, h7, hF⟩ := hF
  obtain ⟨g8, e9, P⟩ := rX9_isCell (r := q6.1) (w' := q6.2) P h7
  refine GR.bind e9 ?_
  by_cases c10 : q6.1 = 0
  · replace hF := ite_t c10 hF
    refine GR.t c10 ?_
    obtain ⟨f1, f2⟩ := finW hF
    subst f1
    subst f2
    exact GR.ret P
  replace hF := ite_f c10 hF
  refine GR.f c10 ?_
  replace hF := ob_some hF
  obtain ⟨q11, h12, hF⟩ := hF
  obtain ⟨g13, e14, P⟩ := rX9_isPair (r := q11.1) (w' := q11.2) P h12
  refine GR.bind e14 ?_
  by_cases c15 : q11.1 = 0
  · replace hF := ite_t c15 hF
    refine GR.t c15 ?_
    by_cases c16 : a2 = (-1 : Int32)
    · replace hF := ite_t c16 hF
      refine GR.t c16 ?_
      exact rX9_put_47  h0 P hF
    replace hF := ite_f c16 hF
    refine GR.f c16 ?_
    obtain ⟨f1, f2⟩ := finW hF
    subst f1
    subst f2
    exact GR.ret P
  replace hF := ite_f c15 hF
  refine GR.f c15 ?_
  replace hF := ob_some hF
  obtain ⟨q17, h18, hF⟩ := hF
  obtain ⟨g19, e20, P⟩ := rX9_isCell (r := q17.1) (w' := q17.2) P h18
  refine GR.bind e20 ?_
  by_cases c21 : q17.1 = 0
  · replace hF := ite_t c21 hF
    refine GR.t c21 ?_
    obtain ⟨f1, f2⟩ := finW hF
    subst f1
    subst f2
    exact GR.ret P
  replace hF := ite_f c21 hF
  refine GR.f c21 ?_
  by_cases c22 : a2 = a3
  · replace hF := ite_t c22 hF
    refine GR.t c22 ?_
    obtain ⟨f1, f2⟩ := finW hF
    subst f1
    subst f2
    exact GR.ret P
  replace hF := ite_f c22 hF
  refine GR.f c22 ?_
  exact rX9_put_47  h0 P hF
def FX9_heal (w : HS) (a0 : Nat) : Option (Int32 × HS) :=
  okb (hc w a0 == 9) (if 0 ≤ (ha w a0 16 1) then ((FX9_keepsAct w a0).bind fun q2 =>
  (bnd (setA q2.2 a0 16 1 (-1 : Int32)) fun w8 =>
  (bnd (setA w8 a0 16 2 (-1 : Int32)) fun w12 =>
  (bnd (setA w12 a0 16 3 (-1 : Int32)) fun w16 =>
  (some ((1 : Int32), w16)))))) else
  (some ((0 : Int32), w)))
set_option maxHeartbeats 4000000 in
set_option maxRecDepth 100000 in
theorem rX9_heal {ar : Nat → Nat → Nat} {c0 : Nat → Nat} {sz : Nat} {g : PH} {w w' : HS} {a0 : Nat} {r : Int32} (P : Rel ar c0 sz g w) (hF : FX9_heal w a0 = some (r, w')) : GR ar c0 sz r w' (fX9_heal g a0) := by
  unfold FX9_heal at hF
  unfold fX9_heal
  replace hF := okb_some hF
  obtain ⟨h0, hF⟩ := hF
  replace h0 := P.cls h0
  refine GR.ok (P.rO h0 (by decide)) ?_
  refine GR.bind (P.getRa (k := 16) h0 (by decide) (by decide) (by decide)) ?_
  refine GR.bind (P.dI (k := 16) (n := 1) h0 (by decide) (by decide) (by decide) (by decide) (by decide) (by decide)) ?_
  by_cases c1 : 0 ≤ (ha w a0 16 1)
  · replace hF := ite_t c1 hF
    refine GR.t c1 ?_
    replace hF := ob_some hF
    obtain ⟨q2, h3, hF⟩ := hF
    obtain ⟨g4, e5, P⟩ := rX9_keepsAct (r := q2.1) (w' := q2.2) P h3
    refine GR.bind e5 ?_
    refine GR.bind (P.getRa (k := 16) h0 (by decide) (by decide) (by decide)) ?_
    replace hF := bnd_e hF
    obtain ⟨w8, e9, hF⟩ := hF
    obtain ⟨g6, e7, P⟩ := P.sI (k := 16) (kd := 0) (j := (1 : Int32)) h0 (by decide) (by decide) (by decide) (by decide) (by decide) (by decide) e9
    refine GR.bind e7 ?_
    refine GR.bind (P.getRa (k := 16) h0 (by decide) (by decide) (by decide)) ?_
    replace hF := bnd_e hF
    obtain ⟨w12, e13, hF⟩ := hF
    obtain ⟨g10, e11, P⟩ := P.sI (k := 16) (kd := 0) (j := (2 : Int32)) h0 (by decide) (by decide) (by decide) (by decide) (by decide) (by decide) e13
    refine GR.bind e11 ?_
    refine GR.bind (P.getRa (k := 16) h0 (by decide) (by decide) (by decide)) ?_
    replace hF := bnd_e hF
    obtain ⟨w16, e17, hF⟩ := hF
    obtain ⟨g14, e15, P⟩ := P.sI (k := 16) (kd := 0) (j := (3 : Int32)) h0 (by decide) (by decide) (by decide) (by decide) (by decide) (by decide) e17
    refine GR.bind e15 ?_
    obtain ⟨f1, f2⟩ := finW hF
    subst f1
    subst f2
    exact GR.ret P
  replace hF := ite_f c1 hF
  refine GR.f c1 ?_
  obtain ⟨f1, f2⟩ := finW hF
  subst f1
  subst f2
  exact GR.ret P
def FX9_tell (w : HS) (a0 : Nat) (a1 : Int32) : Option (Int32 × HS) :=
  okb (hc w a0 == 9) ((FX9_isIn w a1.toInt64 (0 : Int64) (((1 : Int32) <<< ((hi w a0 15) &&& 31)) - (1 : Int32)).toInt64).bind fun q1 =>
  (if q1.1 = 0 then (some ((-1 : Int32), q1.2)) else
  ((FX9_keepsAct q1.2 a0).bind fun q6 =>
  (bnd (setA q6.2 a0 16 0 a1) fun w12 =>
  ((FX9_settles w12 a0).bind fun q14 =>
  (some ((ha q6.2 a0 16 0), q14.2)))))))
set_option maxHeartbeats 4000000 in
set_option maxRecDepth 100000 in
theorem rX9_tell {ar : Nat → Nat → Nat} {c0 : Nat → Nat} {sz : Nat} {g : PH} {w w' : HS} {a0 : Nat} {a1 : Int32} {r : Int32} (P : Rel ar c0 sz g w) (hF : FX9_tell w a0 a1 = some (r, w')) : GR ar c0 sz r w' (fX9_tell g a0 a1) := by
  unfold FX9_tell at hF
  unfold fX9_tell
  replace hF := okb_some hF
  obtain ⟨h0, hF⟩ := hF
  replace h0 := P.cls h0
  refine GR.ok (P.rO h0 (by decide)) ?_
  refine GR.bind (P.rI (k := 15) h0 (by decide) (by decide) (by decide)) ?_
  replace hF := ob_some hF
  obtain ⟨q1, h2, hF⟩ := hF
  obtain ⟨g3, e4, P⟩ := rX9_isIn (r := q1.1) (w' := q1.2) P h2
  refine GR.bind e4 ?_
  by_cases c5 : q1.1 = 0
  · replace hF := ite_t c5 hF
    refine GR.t c5 ?_
    obtain ⟨f1, f2⟩ := finW hF
    subst f1
    subst f2
    exact GR.ret P
  replace hF := ite_f c5 hF
  refine GR.f c5 ?_
  replace hF := ob_some hF
  obtain ⟨q6, h7, hF⟩ := hF
  obtain ⟨g8, e9, P⟩ := rX9_keepsAct (r := q6.1) (w' := q6.2) P h7
  refine GR.bind e9 ?_
  refine GR.bind (P.getRa (k := 16) h0 (by decide) (by decide) (by decide)) ?_
  refine GR.bind (P.dI (k := 16) (n := 0) h0 (by decide) (by decide) (by decide) (by decide) (by decide) (by decide)) ?_
  refine GR.bind (P.getRa (k := 16) h0 (by decide) (by decide) (by decide)) ?_
  replace hF := bnd_e hF
  obtain ⟨w12, e13, hF⟩ := hF
  obtain ⟨g10, e11, P⟩ := P.sI (k := 16) (kd := 0) (j := (0 : Int32)) h0 (by decide) (by decide) (by decide) (by decide) (by decide) (by decide) e13
  refine GR.bind e11 ?_
  replace hF := ob_some hF
  obtain ⟨q14, h15, hF⟩ := hF
  obtain ⟨g16, e17, P⟩ := rX9_settles (r := q14.1) (w' := q14.2) P h15
  refine GR.bind e17 ?_
  obtain ⟨f1, f2⟩ := finW hF
  subst f1
  subst f2
  exact GR.ret P
def FX9_write (w : HS) (a0 : Nat) (a1 : Int32) (a2 : Int32) : Option (Int32 × HS) :=
  okb (hc w a0 == 9) ((FX9_isCell w a0 a1).bind fun q1 =>
  (if q1.1 = 0 then (some ((-1 : Int32), q1.2)) else
  ((FX9_isIn q1.2 a2.toInt64 (0 : Int64) (1 : Int64)).bind fun q6 =>
  (if q6.1 = 0 then (some ((-1 : Int32), q6.2)) else
  ((FX9_keepsAct q6.2 a0).bind fun q11 =>
  ((FX9_writesAt q11.2 a0 a1 a2).bind fun q15 =>
  (some ((ha q15.2 a0 16 0), q15.2))))))))
set_option maxHeartbeats 4000000 in
set_option maxRecDepth 100000 in
theorem rX9_write {ar : Nat → Nat → Nat} {c0 : Nat → Nat} {sz : Nat} {g : PH} {w w' : HS} {a0 : Nat} {a1 : Int32} {a2 : Int32} {r : Int32} (P : Rel ar c0 sz g w) (hF : FX9_write w a0 a1 a2 = some (r, w')) : GR ar c0 sz r w' (fX9_write g a0 a1 a2) := by
  unfold FX9_write at hF
  unfold fX9_write
  replace hF := okb_some hF
  obtain ⟨h0, hF⟩ := hF
  replace h0 := P.cls h0
  refine GR.ok (P.rO h0 (by decide)) ?_
  replace hF := ob_some hF
  obtain ⟨q1, h2, hF⟩ := hF
  obtain ⟨g3, e4, P⟩ := rX9_isCell (r := q1.1) (w' := q1.2) P h2
  refine GR.bind e4 ?_
  by_cases c5 : q1.1 = 0
  · replace hF := ite_t c5 hF
    refine GR.t c5 ?_
    obtain ⟨f1, f2⟩ := finW hF
    subst f1
    subst f2
    exact GR.ret P
  replace hF := ite_f c5 hF
  refine GR.f c5 ?_
  replace hF := ob_some hF
  obtain ⟨q6, h7, hF⟩ := hF
  obtain ⟨g8, e9, P⟩ := rX9_isIn (r := q6.1) (w' := q6.2) P h7
  refine GR.bind e9 ?_
  by_cases c10 : q6.1 = 0
  · replace hF := ite_t c10 hF
    refine GR.t c10 ?_
    obtain ⟨f1, f2⟩ := finW hF
    subst f1
    subst f2
    exact GR.ret P
  replace hF := ite_f c10 hF
  refine GR.f c10 ?_
  replace hF := ob_some hF
  obtain ⟨q11, h12, hF⟩ := hF
  obtain ⟨g13, e14, P⟩ := rX9_keepsAct (r := q11.1) (w' := q11.2) P h12
  refine GR.bind e14 ?_
  replace hF := ob_some hF
  obtain ⟨q15, h16, hF⟩ := hF
  obtain ⟨g17, e18, P⟩ := rX9_writesAt (r := q15.1) (w' := q15.2) P h16
  refine GR.bind e18 ?_
  refine GR.bind (P.getRa (k := 16) h0 (by decide) (by decide) (by decide)) ?_
  refine GR.bind (P.dI (k := 16) (n := 0) h0 (by decide) (by decide) (by decide) (by decide) (by decide) (by decide)) ?_
  obtain ⟨f1, f2⟩ := finW hF
  subst f1
  subst f2
  exact GR.ret P
def FX9_read (w : HS) (a0 : Nat) (a1 : Int32) : Option (Int32 × HS) :=
  okb (hc w a0 == 9) ((FX9_isCell w a0 a1).bind fun q1 =>
  (if q1.1 = 0 then (some ((-1 : Int32), q1.2)) else
  ((FX9_keepsAct q1.2 a0).bind fun q6 =>
  ((FX9_readsAt q6.2 a0 a1).bind fun q10 =>
  (some (q10.1, q10.2))))))
set_option maxHeartbeats 4000000 in
set_option maxRecDepth 100000 in
theorem rX9_read {ar : Nat → Nat → Nat} {c0 : Nat → Nat} {sz : Nat} {g : PH} {w w' : HS} {a0 : Nat} {a1 : Int32} {r : Int32} (P : Rel ar c0 sz g w) (hF : FX9_read w a0 a1 = some (r, w')) : GR ar c0 sz r w' (fX9_read g a0 a1) := by
  unfold FX9_read at hF
  unfold fX9_read
  replace hF := okb_some hF
  obtain ⟨h0, hF⟩ := hF
  replace h0 := P.cls h0
  refine GR.ok (P.rO h0 (by decide)) ?_
  replace hF := ob_some hF
  obtain ⟨q1, h2, hF⟩ := hF
  obtain ⟨g3, e4, P⟩ := rX9_isCell (r := q1.1) (w' := q1.2) P h2
  refine GR.bind e4 ?_
  by_cases c5 : q1.1 = 0
  · replace hF := ite_t c5 hF
    refine GR.t c5 ?_
    obtain ⟨f1, f2⟩ := finW hF
    subst f1
    subst f2
    exact GR.ret P
  replace hF := ite_f c5 hF
  refine GR.f c5 ?_
  replace hF := ob_some hF
  obtain ⟨q6, h7, hF⟩ := hF
  obtain ⟨g8, e9, P⟩ := rX9_keepsAct (r := q6.1) (w' := q6.2) P h7
  refine GR.bind e9 ?_
  replace hF := ob_some hF
  obtain ⟨q10, h11, hF⟩ := hF
  obtain ⟨g12, e13, P⟩ := rX9_readsAt (r := q10.1) (w' := q10.2) P h11
  refine GR.bind e13 ?_
  obtain ⟨f1, f2⟩ := finW hF
  subst f1
  subst f2
  exact GR.ret P
def FX9_run_95 (k61 : HS → Nat → Int32 → Option (Int32 × HS)) (w : HS) (v0 : Nat) (v3 : Int32) (s0 : Int32) (s1 : Int32) (s2 : Nat) : Option (Int32 × HS) :=
  okb (hc w s2 == 9) (okb (inb s1 133) (bnd (setA w s2 16 s1.toNatClampNeg s0) fun w5 =>
  (k61 w5 v0 (v3 + (1 : Int32)))))
set_option maxHeartbeats 4000000 in
set_option maxRecDepth 100000 in
theorem rX9_run_95 {ar : Nat → Nat → Nat} {c0 : Nat → Nat} {sz : Nat} {r : Int32} {w' : HS} {k61 : HS → Nat → Int32 → Option (Int32 × HS)} {j61 : PH → Nat → Int32 → Option (Int32 × PH)} (hk61 : ∀ (g : PH) (w : HS) (v0 : Nat) (v3 : Int32), c0 v0 = 9 → Rel ar c0 sz g w → k61 w v0 v3 = some (r, w') → GR ar c0 sz r w' (j61 g v0 v3)) {g : PH} {w : HS} {v0 : Nat} {v3 : Int32} {s0 : Int32} {s1 : Int32} {s2 : Nat} (h0 : c0 v0 = 9) (P : Rel ar c0 sz g w) (hF : FX9_run_95 k61 w v0 v3 s0 s1 s2 = some (r, w')) : GR ar c0 sz r w' (fX9_run_95 j61 g v0 v3 s0 s1 (ar s2 16)) := by
  unfold FX9_run_95 at hF
  unfold fX9_run_95
  replace hF := okb_some hF
  obtain ⟨h1, hF⟩ := hF
  replace h1 := P.cls h1
  replace hF := okb_some hF
  obtain ⟨h2, hF⟩ := hF
  replace hF := bnd_e hF
  obtain ⟨w5, e6, hF⟩ := hF
  obtain ⟨g3, e4, P⟩ := P.sI (k := 16) (kd := 0) (j := s1) h1 (by decide) (by decide) (by decide) (by decide) h2 rfl e6
  refine GR.bind e4 ?_
  exact hk61 _ _ _ _ h0 P hF
def FX9_run_61  : Nat → HS → Nat → Int32 → Option (Int32 × HS)
  | 0, _, _, _ => none
  | n + 1, w, v0, v3 =>
  if (120 : Int32) ≤ v3 then (some ((hi w v0 20), w)) else
  (if ((2 : Int32) * (hi w v0 20)) ≤ v3 then (FX9_run_95 (FX9_run_61 n) w v0 v3 (0 : Int32) ((13 : Int32) + v3) v0) else
  (okb (inb v3 120) (FX9_run_95 (FX9_run_61 n) w v0 v3 (ha w v0 21 v3.toNatClampNeg) ((13 : Int32) + v3) v0)))
set_option maxHeartbeats 4000000 in
set_option maxRecDepth 100000 in
theorem rX9_run_61 {ar : Nat → Nat → Nat} {c0 : Nat → Nat} {sz : Nat} {r : Int32} {w' : HS}   : ∀ (n : Nat) (g : PH) (w : HS) (v0 : Nat) (v3 : Int32), c0 v0 = 9 → Rel ar c0 sz g w → FX9_run_61  n w v0 v3 = some (r, w') → GR ar c0 sz r w' (fX9_run_61  n g v0 v3) := by
  intro n
  induction n with
  | zero =>
    intro g w v0 v3 h0 P hF
    rw [FX9_run_61] at hF
    cases hF
  | succ n ih =>
    intro g w v0 v3 h0 P hF
    rw [FX9_run_61] at hF
    rw [fX9_run_61]
    by_cases c1 : (120 : Int32) ≤ v3
    · replace hF := ite_t c1 hF
      refine GR.t c1 ?_
      refine GR.bind (P.rI (k := 20) h0 (by decide) (by decide) (by decide)) ?_
      obtain ⟨f1, f2⟩ := finW hF
      subst f1
      subst f2
      exact GR.ret P
    replace hF := ite_f c1 hF
    refine GR.f c1 ?_
    refine GR.bind (P.getRa (k := 16) h0 (by decide) (by decide) (by decide)) ?_
    refine GR.bind (P.rI (k := 20) h0 (by decide) (by decide) (by decide)) ?_
    by_cases c2 : ((2 : Int32) * (hi w v0 20)) ≤ v3
    · replace hF := ite_t c2 hF
      refine GR.t c2 ?_
      exact rX9_run_95 ih h0 P hF
    replace hF := ite_f c2 hF
    refine GR.f c2 ?_
    refine GR.bind (P.getRa (k := 21) h0 (by decide) (by decide) (by decide)) ?_
    replace hF := okb_some hF
    obtain ⟨h3, hF⟩ := hF
    refine GR.bind (P.dI (k := 21) (n := v3.toNatClampNeg) h0 (by decide) (by decide) (by decide) (by decide) h3 rfl) ?_
    exact rX9_run_95 ih h0 P hF
def FX9_run (w : HS) (a0 : Nat) (a1 : Int32) (a2 : Int32) : Option (Int32 × HS) :=
  okb (hc w a0 == 9) ((FX9_isMarch w a0 a1).bind fun q1 =>
  (if q1.1 = 0 then (some ((-1 : Int32), q1.2)) else
  ((FX9_isIn q1.2 a2.toInt64 (0 : Int64) (7 : Int64)).bind fun q6 =>
  (if q6.1 = 0 then (some ((-1 : Int32), q6.2)) else
  ((FX9_keepsAct q6.2 a0).bind fun q11 =>
  ((FX9_goesThrough q11.2 a0 a1 a2).bind fun q15 =>
  (bnd (setA q15.2 a0 16 10 a1) fun w21 =>
  (bnd (setA w21 a0 16 11 a2) fun w25 =>
  (bnd (setA w25 a0 16 12 (hi w25 a0 20)) fun w29 =>
  (FX9_run_61 FUEL w29 a0 (0 : Int32)))))))))))
set_option maxHeartbeats 4000000 in
set_option maxRecDepth 100000 in
theorem rX9_run {ar : Nat → Nat → Nat} {c0 : Nat → Nat} {sz : Nat} {g : PH} {w w' : HS} {a0 : Nat} {a1 : Int32} {a2 : Int32} {r : Int32} (P : Rel ar c0 sz g w) (hF : FX9_run w a0 a1 a2 = some (r, w')) : GR ar c0 sz r w' (fX9_run g a0 a1 a2) := by
  unfold FX9_run at hF
  unfold fX9_run
  replace hF := okb_some hF
  obtain ⟨h0, hF⟩ := hF
  replace h0 := P.cls h0
  refine GR.ok (P.rO h0 (by decide)) ?_
  replace hF := ob_some hF
  obtain ⟨q1, h2, hF⟩ := hF
  obtain ⟨g3, e4, P⟩ := rX9_isMarch (r := q1.1) (w' := q1.2) P h2
  refine GR.bind e4 ?_
  by_cases c5 : q1.1 = 0
  · replace hF := ite_t c5 hF
    refine GR.t c5 ?_
    obtain ⟨f1, f2⟩ := finW hF
    subst f1
    subst f2
    exact GR.ret P
  replace hF := ite_f c5 hF
  refine GR.f c5 ?_
  replace hF := ob_some hF
  obtain ⟨q6, h7, hF⟩ := hF
  obtain ⟨g8, e9, P⟩ := rX9_isIn (r := q6.1) (w' := q6.2) P h7
  refine GR.bind e9 ?_
  by_cases c10 : q6.1 = 0
  · replace hF := ite_t c10 hF
    refine GR.t c10 ?_
    obtain ⟨f1, f2⟩ := finW hF
    subst f1
    subst f2
    exact GR.ret P
  replace hF := ite_f c10 hF
  refine GR.f c10 ?_
  replace hF := ob_some hF
  obtain ⟨q11, h12, hF⟩ := hF
  obtain ⟨g13, e14, P⟩ := rX9_keepsAct (r := q11.1) (w' := q11.2) P h12
  refine GR.bind e14 ?_
  replace hF := ob_some hF
  obtain ⟨q15, h16, hF⟩ := hF
  obtain ⟨g17, e18, P⟩ := rX9_goesThrough (r := q15.1) (w' := q15.2) P h16
  refine GR.bind e18 ?_
  refine GR.bind (P.getRa (k := 16) h0 (by decide) (by decide) (by decide)) ?_
  replace hF := bnd_e hF
  obtain ⟨w21, e22, hF⟩ := hF
  obtain ⟨g19, e20, P⟩ := P.sI (k := 16) (kd := 0) (j := (10 : Int32)) h0 (by decide) (by decide) (by decide) (by decide) (by decide) (by decide) e22
  refine GR.bind e20 ?_
  refine GR.bind (P.getRa (k := 16) h0 (by decide) (by decide) (by decide)) ?_
  replace hF := bnd_e hF
  obtain ⟨w25, e26, hF⟩ := hF
  obtain ⟨g23, e24, P⟩ := P.sI (k := 16) (kd := 0) (j := (11 : Int32)) h0 (by decide) (by decide) (by decide) (by decide) (by decide) (by decide) e26
  refine GR.bind e24 ?_
  refine GR.bind (P.getRa (k := 16) h0 (by decide) (by decide) (by decide)) ?_
  refine GR.bind (P.rI (k := 20) h0 (by decide) (by decide) (by decide)) ?_
  replace hF := bnd_e hF
  obtain ⟨w29, e30, hF⟩ := hF
  obtain ⟨g27, e28, P⟩ := P.sI (k := 16) (kd := 0) (j := (12 : Int32)) h0 (by decide) (by decide) (by decide) (by decide) (by decide) (by decide) e30
  refine GR.bind e28 ?_
  exact rX9_run_61  _ _ _ _ _ h0 P hF
def FX9_layout (w : HS) (a0 : Nat) (a1 : Int32) (a2 : Int32) : Option (Int32 × HS) :=
  okb (hc w a0 == 9) ((FX9_isCell w a0 a1).bind fun q1 =>
  (if q1.1 = 0 then (some ((-1 : Int32), q1.2)) else
  ((FX9_isCell q1.2 a0 a2).bind fun q6 =>
  (if q6.1 = 0 then (some ((-1 : Int32), q6.2)) else
  (if a1 = a2 then (some ((-1 : Int32), q6.2)) else
  ((FX9_keepsAct q6.2 a0).bind fun q12 =>
  (okb (inb ((4 : Int32) + a1) 133) (okb (inb ((4 : Int32) + a2) 133) (okb (inb ((4 : Int32) + a1) 133) (bnd (setA q12.2 a0 16 ((4 : Int32) + a1).toNatClampNeg (ha q12.2 a0 16 ((4 : Int32) + a2).toNatClampNeg)) fun w21 =>
  (okb (inb ((4 : Int32) + a2) 133) (bnd (setA w21 a0 16 ((4 : Int32) + a2).toNatClampNeg (ha q12.2 a0 16 ((4 : Int32) + a1).toNatClampNeg)) fun w26 =>
  (okb (inb ((4 : Int32) + a1) 133) (some ((ha w26 a0 16 ((4 : Int32) + a1).toNatClampNeg), w26)))))))))))))))
set_option maxHeartbeats 4000000 in
set_option maxRecDepth 100000 in
theorem rX9_layout {ar : Nat → Nat → Nat} {c0 : Nat → Nat} {sz : Nat} {g : PH} {w w' : HS} {a0 : Nat} {a1 : Int32} {a2 : Int32} {r : Int32} (P : Rel ar c0 sz g w) (hF : FX9_layout w a0 a1 a2 = some (r, w')) : GR ar c0 sz r w' (fX9_layout g a0 a1 a2) := by
  unfold FX9_layout at hF
  unfold fX9_layout
  replace hF := okb_some hF
  obtain ⟨h0, hF⟩ := hF
  replace h0 := P.cls h0
  refine GR.ok (P.rO h0 (by decide)) ?_
  replace hF := ob_some hF
  obtain ⟨q1, h2, hF⟩ := hF
  obtain ⟨g3, e4, P⟩ := rX9_isCell (r := q1.1) (w' := q1.2) P h2
  refine GR.bind e4 ?_
  by_cases c5 : q1.1 = 0
  · replace hF := ite_t c5 hF
    refine GR.t c5 ?_
    obtain ⟨f1, f2⟩ := finW hF
    subst f1
    subst f2
    exact GR.ret P
  replace hF := ite_f c5 hF
  refine GR.f c5 ?_
  replace hF := ob_some hF
  obtain ⟨q6, h7, hF⟩ := hF
  obtain ⟨g8, e9, P⟩ := rX9_isCell (r := q6.1) (w' := q6.2) P h7
  refine GR.bind e9 ?_
  by_cases c10 : q6.1 = 0
  · replace hF := ite_t c10 hF
    refine GR.t c10 ?_
    obtain ⟨f1, f2⟩ := finW hF
    subst f1
    subst f2
    exact GR.ret P
  replace hF := ite_f c10 hF
  refine GR.f c10 ?_
  by_cases c11 : a1 = a2
  · replace hF := ite_t c11 hF
    refine GR.t c11 ?_
    obtain ⟨f1, f2⟩ := finW hF
    subst f1
    subst f2
    exact GR.ret P
  replace hF := ite_f c11 hF
  refine GR.f c11 ?_
  replace hF := ob_some hF
  obtain ⟨q12, h13, hF⟩ := hF
  obtain ⟨g14, e15, P⟩ := rX9_keepsAct (r := q12.1) (w' := q12.2) P h13
  refine GR.bind e15 ?_
  refine GR.bind (P.getRa (k := 16) h0 (by decide) (by decide) (by decide)) ?_
  replace hF := okb_some hF
  obtain ⟨h16, hF⟩ := hF
  refine GR.bind (P.dI (k := 16) (n := ((4 : Int32) + a1).toNatClampNeg) h0 (by decide) (by decide) (by decide) (by decide) h16 rfl) ?_
  refine GR.bind (P.getRa (k := 16) h0 (by decide) (by decide) (by decide)) ?_
  refine GR.bind (P.getRa (k := 16) h0 (by decide) (by decide) (by decide)) ?_
  replace hF := okb_some hF
  obtain ⟨h17, hF⟩ := hF
  refine GR.bind (P.dI (k := 16) (n := ((4 : Int32) + a2).toNatClampNeg) h0 (by decide) (by decide) (by decide) (by decide) h17 rfl) ?_
  replace hF := okb_some hF
  obtain ⟨h18, hF⟩ := hF
  replace hF := bnd_e hF
  obtain ⟨w21, e22, hF⟩ := hF
  obtain ⟨g19, e20, P⟩ := P.sI (k := 16) (kd := 0) (j := ((4 : Int32) + a1)) h0 (by decide) (by decide) (by decide) (by decide) h18 rfl e22
  refine GR.bind e20 ?_
  refine GR.bind (P.getRa (k := 16) h0 (by decide) (by decide) (by decide)) ?_
  replace hF := okb_some hF
  obtain ⟨h23, hF⟩ := hF
  replace hF := bnd_e hF
  obtain ⟨w26, e27, hF⟩ := hF
  obtain ⟨g24, e25, P⟩ := P.sI (k := 16) (kd := 0) (j := ((4 : Int32) + a2)) h0 (by decide) (by decide) (by decide) (by decide) h23 rfl e27
  refine GR.bind e25 ?_
  refine GR.bind (P.getRa (k := 16) h0 (by decide) (by decide) (by decide)) ?_
  replace hF := okb_some hF
  obtain ⟨h28, hF⟩ := hF
  refine GR.bind (P.dI (k := 16) (n := ((4 : Int32) + a1).toNatClampNeg) h0 (by decide) (by decide) (by decide) (by decide) h28 rfl) ?_
  obtain ⟨f1, f2⟩ := finW hF
  subst f1
  subst f2
  exact GR.ret P
