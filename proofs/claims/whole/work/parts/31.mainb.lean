def FX8_cell (w : HS) (a0 : Nat) (a1 : Int32) (a2 : Int32) : Option (Int32 × HS) :=
  okb (hc w a0 == 8) ((hp w a0 5).bind fun p1 =>
  ((FX3_hasCell w p1 a1).bind fun q3 =>
  (if q3.1 = 0 then (some ((-1 : Int32), q3.2)) else
  (if a2 = 0 then ((hp q3.2 a0 5).bind fun p9 =>
  ((FX3_cellOf q3.2 p9 a1).bind fun q11 =>
  (some (q11.1, q11.2)))) else
  (if a2 = 1 then ((hp q3.2 a0 5).bind fun p16 =>
  (okb (hc q3.2 p16 == 3) (some ((((hi q3.2 p16 1) >>> (a1 &&& 31)) &&& (1 : Int32)), q3.2)))) else
  (some ((-1 : Int32), q3.2)))))))
set_option maxHeartbeats 4000000 in
set_option maxRecDepth 100000 in
theorem rX8_cell {ar : Nat → Nat → Nat} {c0 : Nat → Nat} {sz : Nat} {g : PH} {w w' : HS} {a0 : Nat} {a1 : Int32} {a2 : Int32} {r : Int32} (P : Rel ar c0 sz g w) (hF : FX8_cell w a0 a1 a2 = some (r, w')) : GR ar c0 sz r w' (fX8_cell g a0 a1 a2) := by
  unfold FX8_cell at hF
  unfold fX8_cell
  replace hF := okb_some hF
  obtain ⟨h0, hF⟩ := hF
  replace h0 := P.cls h0
  refine GR.ok (P.rO h0 (by decide)) ?_
  replace hF := ob_some hF
  obtain ⟨p1, h2, hF⟩ := hF
  refine GR.bind (P.getRo (k := 5) h0 (by decide) (by decide) (by decide) h2) ?_
  replace hF := ob_some hF
  obtain ⟨q3, h4, hF⟩ := hF
  obtain ⟨g5, e6, P⟩ := rX3_hasCell (r := q3.1) (w' := q3.2) P h4
  refine GR.bind e6 ?_
  by_cases c7 : q3.1 = 0
  · replace hF := ite_t c7 hF
    refine GR.t c7 ?_
    obtain ⟨f1, f2⟩ := finW hF
    subst f1
    subst f2
    exact GR.ret P
  replace hF := ite_f c7 hF
  refine GR.f c7 ?_
  by_cases c8 : a2 = 0
  · replace hF := ite_t c8 hF
    refine GR.t c8 ?_
    replace hF := ob_some hF
    obtain ⟨p9, h10, hF⟩ := hF
    refine GR.bind (P.getRo (k := 5) h0 (by decide) (by decide) (by decide) h10) ?_
    replace hF := ob_some hF
    obtain ⟨q11, h12, hF⟩ := hF
    obtain ⟨g13, e14, P⟩ := rX3_cellOf (r := q11.1) (w' := q11.2) P h12
    refine GR.bind e14 ?_
    obtain ⟨f1, f2⟩ := finW hF
    subst f1
    subst f2
    exact GR.ret P
  replace hF := ite_f c8 hF
  refine GR.f c8 ?_
  by_cases c15 : a2 = 1
  · replace hF := ite_t c15 hF
    refine GR.t c15 ?_
    replace hF := ob_some hF
    obtain ⟨p16, h17, hF⟩ := hF
    refine GR.bind (P.getRo (k := 5) h0 (by decide) (by decide) (by decide) h17) ?_
    replace hF := okb_some hF
    obtain ⟨h18, hF⟩ := hF
    replace h18 := P.cls h18
    refine GR.bind (P.rI (k := 1) h18 (by decide) (by decide) (by decide)) ?_
    obtain ⟨f1, f2⟩ := finW hF
    subst f1
    subst f2
    exact GR.ret P
  replace hF := ite_f c15 hF
  refine GR.f c15 ?_
  obtain ⟨f1, f2⟩ := finW hF
  subst f1
  subst f2
  exact GR.ret P
def FX8_log (w : HS) (a0 : Nat) (a1 : Int32) (a2 : Int32) : Option (Int32 × HS) :=
  okb (hc w a0 == 8) (if a1 < 0 then (some ((-1 : Int32), w)) else
  (if a2 < 0 then (some ((-1 : Int32), w)) else
  (if a2 ≤ (1 : Int32) then ((hp w a0 5).bind fun p4 =>
  (okb (hc w p4 == 3) (if a1 < (hi w p4 9) then (if a2 = 0 then ((hp w a0 5).bind fun p9 =>
  ((FX3_loggedNumber w p9 a1).bind fun q11 =>
  (some (q11.1, q11.2)))) else
  ((hp w a0 5).bind fun p15 =>
  ((FX3_loggedAddress w p15 a1).bind fun q17 =>
  (some (q17.1, q17.2))))) else
  (some ((-2 : Int32), w))))) else
  (some ((-1 : Int32), w)))))
set_option maxHeartbeats 4000000 in
set_option maxRecDepth 100000 in
theorem rX8_log {ar : Nat → Nat → Nat} {c0 : Nat → Nat} {sz : Nat} {g : PH} {w w' : HS} {a0 : Nat} {a1 : Int32} {a2 : Int32} {r : Int32} (P : Rel ar c0 sz g w) (hF : FX8_log w a0 a1 a2 = some (r, w')) : GR ar c0 sz r w' (fX8_log g a0 a1 a2) := by
  unfold FX8_log at hF
  unfold fX8_log
  replace hF := okb_some hF
  obtain ⟨h0, hF⟩ := hF
  replace h0 := P.cls h0
  refine GR.ok (P.rO h0 (by decide)) ?_
  by_cases c1 : a1 < 0
  · replace hF := ite_t c1 hF
    refine GR.t c1 ?_
    obtain ⟨f1, f2⟩ := finW hF
    subst f1
    subst f2
    exact GR.ret P
  replace hF := ite_f c1 hF
  refine GR.f c1 ?_
  by_cases c2 : a2 < 0
  · replace hF := ite_t c2 hF
    refine GR.t c2 ?_
    obtain ⟨f1, f2⟩ := finW hF
    subst f1
    subst f2
    exact GR.ret P
  replace hF := ite_f c2 hF
  refine GR.f c2 ?_
  by_cases c3 : a2 ≤ (1 : Int32)
  · replace hF := ite_t c3 hF
    refine GR.t c3 ?_
    replace hF := ob_some hF
    obtain ⟨p4, h5, hF⟩ := hF
    refine GR.bind (P.getRo (k := 5) h0 (by decide) (by decide) (by decide) h5) ?_
    replace hF := okb_some hF
    obtain ⟨h6, hF⟩ := hF
    replace h6 := P.cls h6
    refine GR.bind (P.rI (k := 9) h6 (by decide) (by decide) (by decide)) ?_
    by_cases c7 : a1 < (hi w p4 9)
    · replace hF := ite_t c7 hF
      refine GR.t c7 ?_
      by_cases c8 : a2 = 0
      · replace hF := ite_t c8 hF
        refine GR.t c8 ?_
        replace hF := ob_some hF
        obtain ⟨p9, h10, hF⟩ := hF
        refine GR.bind (P.getRo (k := 5) h0 (by decide) (by decide) (by decide) h10) ?_
        replace hF := ob_some hF
        obtain ⟨q11, h12, hF⟩ := hF
        obtain ⟨g13, e14, P⟩ := rX3_loggedNumber (r := q11.1) (w' := q11.2) P h12
        refine GR.bind e14 ?_
        obtain ⟨f1, f2⟩ := finW hF
        subst f1
        subst f2
        exact GR.ret P
      replace hF := ite_f c8 hF
      refine GR.f c8 ?_
      replace hF := ob_some hF
      obtain ⟨p15, h16, hF⟩ := hF
      refine GR.bind (P.getRo (k := 5) h0 (by decide) (by decide) (by decide) h16) ?_
      replace hF := ob_some hF
      obtain ⟨q17, h18, hF⟩ := hF
      obtain ⟨g19, e20, P⟩ := rX3_loggedAddress (r := q17.1) (w' := q17.2) P h18
      refine GR.bind e20 ?_
      obtain ⟨f1, f2⟩ := finW hF
      subst f1
      subst f2
      exact GR.ret P
    replace hF := ite_f c7 hF
    refine GR.f c7 ?_
    obtain ⟨f1, f2⟩ := finW hF
    subst f1
    subst f2
    exact GR.ret P
  replace hF := ite_f c3 hF
  refine GR.f c3 ?_
  obtain ⟨f1, f2⟩ := finW hF
  subst f1
  subst f2
  exact GR.ret P
def FX8_couldHaveLogged_16  : Nat → HS → Nat → Nat → Nat → Int32 → Int32 → Option (Int32 × HS)
  | 0, _, _, _, _, _, _ => none
  | n + 1, w, v0, v1, v2, v3, v4 =>
  if v3 ≤ v4 then (some ((0 : Int32), w)) else
  ((hp w v0 7).bind fun p2 =>
  ((hp w v0 5).bind fun p4 =>
  (okb (hc w p4 == 3) ((FX7_go w p2 v1 v2 v4 (hi w p4 7)).bind fun q7 =>
  ((hp q7.2 v0 5).bind fun p11 =>
  ((hp q7.2 v0 7).bind fun p13 =>
  ((FX3_hasLogOf q7.2 p11 p13).bind fun q15 =>
  (if q15.1 = 0 then (FX8_couldHaveLogged_16 n q15.2 v0 v1 v2 v3 (v4 + (1 : Int32))) else
  (some ((1 : Int32), q15.2))))))))))
set_option maxHeartbeats 4000000 in
set_option maxRecDepth 100000 in
theorem rX8_couldHaveLogged_16 {ar : Nat → Nat → Nat} {c0 : Nat → Nat} {sz : Nat} {r : Int32} {w' : HS}   : ∀ (n : Nat) (g : PH) (w : HS) (v0 : Nat) (v1 : Nat) (v2 : Nat) (v3 : Int32) (v4 : Int32), c0 v0 = 8 → Rel ar c0 sz g w → FX8_couldHaveLogged_16  n w v0 v1 v2 v3 v4 = some (r, w') → GR ar c0 sz r w' (fX8_couldHaveLogged_16  n g v0 v1 v2 v3 v4) := by
  intro n
  induction n with
  | zero =>
    intro g w v0 v1 v2 v3 v4 h0 P hF
    rw [FX8_couldHaveLogged_16] at hF
    cases hF
  | succ n ih =>
    intro g w v0 v1 v2 v3 v4 h0 P hF
    rw [FX8_couldHaveLogged_16] at hF
    rw [fX8_couldHaveLogged_16]
    by_cases c1 : v3 ≤ v4
    · replace hF := ite_t c1 hF
      refine GR.t c1 ?_
      obtain ⟨f1, f2⟩ := finW hF
      subst f1
      subst f2
      exact GR.ret P
    replace hF := ite_f c1 hF
    refine GR.f c1 ?_
    replace hF := ob_some hF
    obtain ⟨p2, h3, hF⟩ := hF
    refine GR.bind (P.getRo (k := 7) h0 (by decide) (by decide) (by decide) h3) ?_
    replace hF := ob_some hF
    obtain ⟨p4, h5, hF⟩ := hF
    refine GR.bind (P.getRo (k := 5) h0 (by decide) (by decide) (by decide) h5) ?_
    replace hF := okb_some hF
    obtain ⟨h6, hF⟩ := hF
    replace h6 := P.cls h6
    refine GR.bind (P.rI (k := 7) h6 (by decide) (by decide) (by decide)) ?_
    replace hF := ob_some hF
    obtain ⟨q7, h8, hF⟩ := hF
    obtain ⟨g9, e10, P⟩ := rX7_go (r := q7.1) (w' := q7.2) P h8
    refine GR.bind e10 ?_
    replace hF := ob_some hF
    obtain ⟨p11, h12, hF⟩ := hF
    refine GR.bind (P.getRo (k := 5) h0 (by decide) (by decide) (by decide) h12) ?_
    replace hF := ob_some hF
    obtain ⟨p13, h14, hF⟩ := hF
    refine GR.bind (P.getRo (k := 7) h0 (by decide) (by decide) (by decide) h14) ?_
    replace hF := ob_some hF
    obtain ⟨q15, h16, hF⟩ := hF
    obtain ⟨g17, e18, P⟩ := rX3_hasLogOf (r := q15.1) (w' := q15.2) P h16
    refine GR.bind e18 ?_
    by_cases c19 : q15.1 = 0
    · replace hF := ite_t c19 hF
      refine GR.t c19 ?_
      exact ih _ _ _ _ _ _ _ h0 P hF
    replace hF := ite_f c19 hF
    refine GR.f c19 ?_
    obtain ⟨f1, f2⟩ := finW hF
    subst f1
    subst f2
    exact GR.ret P
def FX8_couldHaveLogged_12  (w : HS) (v0 : Nat) (v1 : Nat) (v2 : Nat) (s0 : Int32) : Option (Int32 × HS) :=
  FX8_couldHaveLogged_16 FUEL w v0 v1 v2 s0 (0 : Int32)
set_option maxHeartbeats 4000000 in
set_option maxRecDepth 100000 in
theorem rX8_couldHaveLogged_12 {ar : Nat → Nat → Nat} {c0 : Nat → Nat} {sz : Nat} {r : Int32} {w' : HS}   {g : PH} {w : HS} {v0 : Nat} {v1 : Nat} {v2 : Nat} {s0 : Int32} (h0 : c0 v0 = 8) (P : Rel ar c0 sz g w) (hF : FX8_couldHaveLogged_12  w v0 v1 v2 s0 = some (r, w')) : GR ar c0 sz r w' (fX8_couldHaveLogged_12  g v0 v1 v2 s0) := by
  unfold FX8_couldHaveLogged_12 at hF
  unfold fX8_couldHaveLogged_12
  exact rX8_couldHaveLogged_16  _ _ _ _ _ _ _ _ h0 P hF
def FX8_couldHaveLogged (w : HS) (a0 : Nat) (a1 : Nat) (a2 : Nat) : Option (Int32 × HS) :=
  okb (hc w a0 == 8) (okb (hc w a1 == 1) (if (hi w a1 1) = 0 then (FX8_couldHaveLogged_12 w a0 a1 a2 (2 : Int32)) else
  (FX8_couldHaveLogged_12 w a0 a1 a2 (4 : Int32))))
set_option maxHeartbeats 4000000 in
set_option maxRecDepth 100000 in
theorem rX8_couldHaveLogged {ar : Nat → Nat → Nat} {c0 : Nat → Nat} {sz : Nat} {g : PH} {w w' : HS} {a0 : Nat} {a1 : Nat} {a2 : Nat} {r : Int32} (P : Rel ar c0 sz g w) (hF : FX8_couldHaveLogged w a0 a1 a2 = some (r, w')) : GR ar c0 sz r w' (fX8_couldHaveLogged g a0 a1 a2) := by
  unfold FX8_couldHaveLogged at hF
  unfold fX8_couldHaveLogged
  replace hF := okb_some hF
  obtain ⟨h0, hF⟩ := hF
  replace h0 := P.cls h0
  refine GR.ok (P.rO h0 (by decide)) ?_
  replace hF := okb_some hF
  obtain ⟨h1, hF⟩ := hF
  replace h1 := P.cls h1
  refine GR.bind (P.rI (k := 1) h1 (by decide) (by decide) (by decide)) ?_
  by_cases c2 : (hi w a1 1) = 0
  · replace hF := ite_t c2 hF
    refine GR.t c2 ?_
    exact rX8_couldHaveLogged_12  h0 P hF
  replace hF := ite_f c2 hF
  refine GR.f c2 ?_
  exact rX8_couldHaveLogged_12  h0 P hF
def FX8_gatherOf_43 (k3 : HS → Nat → Nat → Nat → Int32 → Nat → Int32 → Option (Unit × HS)) (w : HS) (v0 : Nat) (v1 : Nat) (v2 : Nat) (v3 : Int32) (v4 : Nat) (v5 : Int32) : Option (Unit × HS) :=
  k3 w v0 v1 v2 v3 v4 (v5 + (1 : Int32))
set_option maxHeartbeats 4000000 in
set_option maxRecDepth 100000 in
theorem rX8_gatherOf_43 {ar : Nat → Nat → Nat} {c0 : Nat → Nat} {sz : Nat} {r : Unit} {w' : HS} {k3 : HS → Nat → Nat → Nat → Int32 → Nat → Int32 → Option (Unit × HS)} {j3 : PH → Nat → Nat → Nat → Int32 → Nat → Int32 → Option (Unit × PH)} (hk3 : ∀ (g : PH) (w : HS) (v0 : Nat) (v1 : Nat) (v2 : Nat) (v3 : Int32) (v4 : Nat) (v5 : Int32), c0 v0 = 8 → Rel ar c0 sz g w → k3 w v0 v1 v2 v3 v4 v5 = some (r, w') → GR ar c0 sz r w' (j3 g v0 v1 v2 v3 v4 v5)) {g : PH} {w : HS} {v0 : Nat} {v1 : Nat} {v2 : Nat} {v3 : Int32} {v4 : Nat} {v5 : Int32} (h0 : c0 v0 = 8) (P : Rel ar c0 sz g w) (hF : FX8_gatherOf_43 k3 w v0 v1 v2 v3 v4 v5 = some (r, w')) : GR ar c0 sz r w' (fX8_gatherOf_43 j3 g v0 v1 v2 v3 v4 v5) := by
  unfold FX8_gatherOf_43 at hF
  unfold fX8_gatherOf_43
  exact hk3 _ _ _ _ _ _ _ _ h0 P hF
def FX8_gatherOf_3  : Nat → HS → Nat → Nat → Nat → Int32 → Nat → Int32 → Option (Unit × HS)
  | 0, _, _, _, _, _, _, _ => none
  | n + 1, w, v0, v1, v2, v3, v4, v5 =>
  (hp w v0 5).bind fun p1 =>
  (okb (hc w p1 == 3) ((FX1_placements w v2 (hi w p1 0)).bind fun q4 =>
  (if q4.1 ≤ v5 then (some ((), q4.2)) else
  ((FX8_aim q4.2 v0 v2 v5).bind fun q9 =>
  ((FX8_couldHaveLogged q9.2 v0 v2 v4).bind fun q13 =>
  (if q13.1 = 0 then (FX8_gatherOf_43 (FX8_gatherOf_3 n) q13.2 v0 v1 v2 v3 v4 v5) else
  ((FX5_add q13.2 v1 v3 v5).bind fun q18 =>
  (FX8_gatherOf_43 (FX8_gatherOf_3 n) q18.2 v0 v1 v2 v3 v4 v5))))))))
set_option maxHeartbeats 4000000 in
set_option maxRecDepth 100000 in
theorem rX8_gatherOf_3 {ar : Nat → Nat → Nat} {c0 : Nat → Nat} {sz : Nat} {r : Unit} {w' : HS}   : ∀ (n : Nat) (g : PH) (w : HS) (v0 : Nat) (v1 : Nat) (v2 : Nat) (v3 : Int32) (v4 : Nat) (v5 : Int32), c0 v0 = 8 → Rel ar c0 sz g w → FX8_gatherOf_3  n w v0 v1 v2 v3 v4 v5 = some (r, w') → GR ar c0 sz r w' (fX8_gatherOf_3  n g v0 v1 v2 v3 v4 v5) := by
  intro n
  induction n with
  | zero =>
    intro g w v0 v1 v2 v3 v4 v5 h0 P hF
    rw [FX8_gatherOf_3] at hF
    cases hF
  | succ n ih =>
    intro g w v0 v1 v2 v3 v4 v5 h0 P hF
    rw [FX8_gatherOf_3] at hF
    rw [fX8_gatherOf_3]
    replace hF := ob_some hF
    obtain ⟨p1, h2, hF⟩ := hF
    refine GR.bind (P.getRo (k := 5) h0 (by decide) (by decide) (by decide) h2) ?_
    replace hF := okb_some hF
    obtain ⟨h3, hF⟩ := hF
    replace h3 := P.cls h3
    refine GR.bind (P.rI (k := 0) h3 (by decide) (by decide) (by decide)) ?_
    replace hF := ob_some hF
    obtain ⟨q4, h5, hF⟩ := hF
    obtain ⟨g6, e7, P⟩ := rX1_placements (r := q4.1) (w' := q4.2) P h5
    refine GR.bind e7 ?_
    by_cases c8 : q4.1 ≤ v5
    · replace hF := ite_t c8 hF
      refine GR.t c8 ?_
      obtain ⟨f1, f2⟩ := finW hF
      subst f1
      subst f2
      exact GR.ret P
    replace hF := ite_f c8 hF
    refine GR.f c8 ?_
    replace hF := ob_some hF
    obtain ⟨q9, h10, hF⟩ := hF
    obtain ⟨g11, e12, P⟩ := rX8_aim (r := q9.1) (w' := q9.2) P h10
    refine GR.bind e12 ?_
    replace hF := ob_some hF
    obtain ⟨q13, h14, hF⟩ := hF
    obtain ⟨g15, e16, P⟩ := rX8_couldHaveLogged (r := q13.1) (w' := q13.2) P h14
    refine GR.bind e16 ?_
    by_cases c17 : q13.1 = 0
    · replace hF := ite_t c17 hF
      refine GR.t c17 ?_
      exact rX8_gatherOf_43 ih h0 P hF
    replace hF := ite_f c17 hF
    refine GR.f c17 ?_
    replace hF := ob_some hF
    obtain ⟨q18, h19, hF⟩ := hF
    obtain ⟨g20, e21, P⟩ := rX5_add (r := q18.1) (w' := q18.2) P h19
    refine GR.bind e21 ?_
    exact rX8_gatherOf_43 ih h0 P hF
def FX8_gatherOf (w : HS) (a0 : Nat) (a1 : Nat) (a2 : Nat) (a3 : Int32) (a4 : Nat) : Option (Unit × HS) :=
  okb (hc w a0 == 8) (FX8_gatherOf_3 FUEL w a0 a1 a2 a3 a4 (0 : Int32))
set_option maxHeartbeats 4000000 in
set_option maxRecDepth 100000 in
theorem rX8_gatherOf {ar : Nat → Nat → Nat} {c0 : Nat → Nat} {sz : Nat} {g : PH} {w w' : HS} {a0 : Nat} {a1 : Nat} {a2 : Nat} {a3 : Int32} {a4 : Nat} {r : Unit} (P : Rel ar c0 sz g w) (hF : FX8_gatherOf w a0 a1 a2 a3 a4 = some (r, w')) : GR ar c0 sz r w' (fX8_gatherOf g a0 a1 a2 a3 a4) := by
  unfold FX8_gatherOf at hF
  unfold fX8_gatherOf
  replace hF := okb_some hF
  obtain ⟨h0, hF⟩ := hF
  replace h0 := P.cls h0
  refine GR.ok (P.rO h0 (by decide)) ?_
  exact rX8_gatherOf_3  _ _ _ _ _ _ _ _ _ h0 P hF
def FX8_greatestPart_87 (k17 : HS → Nat → Nat → Option Nat → Int32 → Int32 → Option (Int32 × HS)) (w : HS) (v0 : Nat) (v1 : Nat) (v3 : Option Nat) (v4 : Int32) (v5 : Int32) : Option (Int32 × HS) :=
  k17 w v0 v1 v3 v4 (v5 + (1 : Int32))
set_option maxHeartbeats 4000000 in
set_option maxRecDepth 100000 in
theorem rX8_greatestPart_87 {ar : Nat → Nat → Nat} {c0 : Nat → Nat} {sz : Nat} {r : Int32} {w' : HS} {k17 : HS → Nat → Nat → Option Nat → Int32 → Int32 → Option (Int32 × HS)} {j17 : PH → Nat → Nat → Option Nat → Int32 → Int32 → Option (Int32 × PH)} (hk17 : ∀ (g : PH) (w : HS) (v0 : Nat) (v1 : Nat) (v3 : Option Nat) (v4 : Int32) (v5 : Int32), c0 v0 = 8 → Rel ar c0 sz g w → k17 w v0 v1 v3 v4 v5 = some (r, w') → GR ar c0 sz r w' (j17 g v0 v1 v3 v4 v5)) {g : PH} {w : HS} {v0 : Nat} {v1 : Nat} {v3 : Option Nat} {v4 : Int32} {v5 : Int32} (h0 : c0 v0 = 8) (P : Rel ar c0 sz g w) (hF : FX8_greatestPart_87 k17 w v0 v1 v3 v4 v5 = some (r, w')) : GR ar c0 sz r w' (fX8_greatestPart_87 j17 g v0 v1 v3 v4 v5) := by
  unfold FX8_greatestPart_87 at hF
  unfold fX8_greatestPart_87
  exact hk17 _ _ _ _ _ _ _ h0 P hF
def FX8_greatestPart_17  : Nat → HS → Nat → Nat → Option Nat → Int32 → Int32 → Option (Int32 × HS)
  | 0, _, _, _, _, _, _ => none
  | n + 1, w, v0, v1, v3, v4, v5 =>
  okb (hc w v1 == 5) (if (hi w v1 0) ≤ v5 then (some (v4, w)) else
  ((FX5_kindOf w v1 v5).bind fun q3 =>
  ((FX8_kindAt q3.2 v0 q3.1).bind fun q7 =>
  (q7.1.elim (FX8_greatestPart_87 (FX8_greatestPart_17 n) q7.2 v0 v1 v3 v4 v5) (fun p11 =>
  v3.elim (FX8_greatestPart_87 (FX8_greatestPart_17 n) q7.2 v0 v1 none v4 v5) (fun p13 =>
  (FX5_placementOf q7.2 v1 v5).bind fun q15 =>
  ((FX8_aim q15.2 v0 p11 q15.1).bind fun q19 =>
  ((hp q19.2 v0 7).bind fun p23 =>
  ((FX7_go q19.2 p23 p11 p13 (0 : Int32) (0 : Int32)).bind fun q25 =>
  ((hp q25.2 v0 7).bind fun p29 =>
  ((FX5_partWith q25.2 v1 p29).bind fun q31 =>
  (FX8_greatestPart_87 (FX8_greatestPart_17 n) q31.2 v0 v1 (some p13) (if v4 < q31.1 then q31.1 else v4) v5))))))))))))
set_option maxHeartbeats 4000000 in
set_option maxRecDepth 100000 in
theorem rX8_greatestPart_17 {ar : Nat → Nat → Nat} {c0 : Nat → Nat} {sz : Nat} {r : Int32} {w' : HS}   : ∀ (n : Nat) (g : PH) (w : HS) (v0 : Nat) (v1 : Nat) (v3 : Option Nat) (v4 : Int32) (v5 : Int32), c0 v0 = 8 → Rel ar c0 sz g w → FX8_greatestPart_17  n w v0 v1 v3 v4 v5 = some (r, w') → GR ar c0 sz r w' (fX8_greatestPart_17  n g v0 v1 v3 v4 v5) := by
  intro n
  induction n with
  | zero =>
    intro g w v0 v1 v3 v4 v5 h0 P hF
    rw [FX8_greatestPart_17] at hF
    cases hF
  | succ n ih =>
    intro g w v0 v1 v3 v4 v5 h0 P hF
    rw [FX8_greatestPart_17] at hF
    rw [fX8_greatestPart_17]
    replace hF := okb_some hF
    obtain ⟨h1, hF⟩ := hF
    replace h1 := P.cls h1
    refine GR.bind (P.rI (k := 0) h1 (by decide) (by decide) (by decide)) ?_
    by_cases c2 : (hi w v1 0) ≤ v5
    · replace hF := ite_t c2 hF
      refine GR.t c2 ?_
      obtain ⟨f1, f2⟩ := finW hF
      subst f1
      subst f2
      exact GR.ret P
    replace hF := ite_f c2 hF
    refine GR.f c2 ?_
    replace hF := ob_some hF
    obtain ⟨q3, h4, hF⟩ := hF
    obtain ⟨g5, e6, P⟩ := rX5_kindOf (r := q3.1) (w' := q3.2) P h4
    refine GR.bind e6 ?_
    replace hF := ob_some hF
    obtain ⟨q7, h8, hF⟩ := hF
    obtain ⟨g9, e10, P⟩ := rX8_kindAt (r := q7.1) (w' := q7.2) P h8
    refine GR.bind e10 ?_
    dsimp only
    by_cases h12 : q7.1 = none
    · replace hF := el_n h12 hF
      refine GR.en h12 ?_
      exact rX8_greatestPart_87 ih h0 P hF
    obtain ⟨p11, h12⟩ := Option.ne_none_iff_exists'.mp h12
    replace hF := el_s h12 hF
    refine GR.es h12 ?_
    by_cases h14 : v3 = none
    · replace hF := el_n h14 hF
      refine GR.en h14 ?_
      exact rX8_greatestPart_87 ih h0 P hF
    obtain ⟨p13, h14⟩ := Option.ne_none_iff_exists'.mp h14
    replace hF := el_s h14 hF
    refine GR.es h14 ?_
    replace hF := ob_some hF
    obtain ⟨q15, h16, hF⟩ := hF
    obtain ⟨g17, e18, P⟩ := rX5_placementOf (r := q15.1) (w' := q15.2) P h16
    refine GR.bind e18 ?_
    replace hF := ob_some hF
    obtain ⟨q19, h20, hF⟩ := hF
    obtain ⟨g21, e22, P⟩ := rX8_aim (r := q19.1) (w' := q19.2) P h20
    refine GR.bind e22 ?_
    replace hF := ob_some hF
    obtain ⟨p23, h24, hF⟩ := hF
    refine GR.bind (P.getRo (k := 7) h0 (by decide) (by decide) (by decide) h24) ?_
    replace hF := ob_some hF
    obtain ⟨q25, h26, hF⟩ := hF
    obtain ⟨g27, e28, P⟩ := rX7_go (r := q25.1) (w' := q25.2) P h26
    refine GR.bind e28 ?_
    replace hF := ob_some hF
    obtain ⟨p29, h30, hF⟩ := hF
    refine GR.bind (P.getRo (k := 7) h0 (by decide) (by decide) (by decide) h30) ?_
    replace hF := ob_some hF
    obtain ⟨q31, h32, hF⟩ := hF
    obtain ⟨g33, e34, P⟩ := rX5_partWith (r := q31.1) (w' := q31.2) P h32
    refine GR.bind e34 ?_
    exact rX8_greatestPart_87 ih h0 P hF
def FX8_greatestPart (w : HS) (a0 : Nat) (a1 : Nat) (a2 : Int32) : Option (Int32 × HS) :=
  okb (hc w a0 == 8) ((FX8_marchAt w a0 a2).bind fun q1 =>
  (okb (hc q1.2 a1 == 5) (bnd (setI q1.2 a1 1 (0 : Int32)) fun w6 =>
  (FX8_greatestPart_17 FUEL w6 a0 a1 q1.1 (0 : Int32) (0 : Int32)))))
set_option maxHeartbeats 4000000 in
set_option maxRecDepth 100000 in
theorem rX8_greatestPart {ar : Nat → Nat → Nat} {c0 : Nat → Nat} {sz : Nat} {g : PH} {w w' : HS} {a0 : Nat} {a1 : Nat} {a2 : Int32} {r : Int32} (P : Rel ar c0 sz g w) (hF : FX8_greatestPart w a0 a1 a2 = some (r, w')) : GR ar c0 sz r w' (fX8_greatestPart g a0 a1 a2) := by
  unfold FX8_greatestPart at hF
  unfold fX8_greatestPart
  replace hF := okb_some hF
  obtain ⟨h0, hF⟩ := hF
  replace h0 := P.cls h0
  refine GR.ok (P.rO h0 (by decide)) ?_
  replace hF := ob_some hF
  obtain ⟨q1, h2, hF⟩ := hF
  obtain ⟨g3, e4, P⟩ := rX8_marchAt (r := q1.1) (w' := q1.2) P h2
  refine GR.bind e4 ?_
  dsimp only
  replace hF := okb_some hF
  obtain ⟨h5, hF⟩ := hF
  replace h5 := P.cls h5
  replace hF := bnd_e hF
  obtain ⟨w6, e7, hF⟩ := hF
  obtain ⟨g8, e9, P⟩ := P.putI (k := 1) h5 (by decide) (by decide) (by decide) e7
  refine GR.bind e9 ?_
  exact rX8_greatestPart_17  _ _ _ _ _ _ _ _ h0 P hF
def FX8_draws (w : HS) (a0 : Nat) (a1 : Int32) : Option (Int32 × HS) :=
  okb (hc w a0 == 8) (if 0 ≤ a1 then (bnd (setI w a0 11 a1) fun w2 =>
  (some ((hi w a0 11), w2))) else
  (some ((-1 : Int32), w)))
set_option maxHeartbeats 4000000 in
set_option maxRecDepth 100000 in
theorem rX8_draws {ar : Nat → Nat → Nat} {c0 : Nat → Nat} {sz : Nat} {g : PH} {w w' : HS} {a0 : Nat} {a1 : Int32} {r : Int32} (P : Rel ar c0 sz g w) (hF : FX8_draws w a0 a1 = some (r, w')) : GR ar c0 sz r w' (fX8_draws g a0 a1) := by
  unfold FX8_draws at hF
  unfold fX8_draws
  replace hF := okb_some hF
  obtain ⟨h0, hF⟩ := hF
  replace h0 := P.cls h0
  refine GR.ok (P.rO h0 (by decide)) ?_
  by_cases c1 : 0 ≤ a1
  · replace hF := ite_t c1 hF
    refine GR.t c1 ?_
    refine GR.bind (P.rI (k := 11) h0 (by decide) (by decide) (by decide)) ?_
    replace hF := bnd_e hF
    obtain ⟨w2, e3, hF⟩ := hF
    obtain ⟨g4, e5, P⟩ := P.putI (k := 11) h0 (by decide) (by decide) (by decide) e3
    refine GR.bind e5 ?_
    obtain ⟨f1, f2⟩ := finW hF
    subst f1
    subst f2
    exact GR.ret P
  replace hF := ite_f c1 hF
  refine GR.f c1 ?_
  obtain ⟨f1, f2⟩ := finW hF
  subst f1
  subst f2
  exact GR.ret P
def FX8_draw (w : HS) (a0 : Nat) (a1 : Int32) : Option (Int32 × HS) :=
  okb (hc w a0 == 8) (bnd (setI w a0 11 ((((hi w a0 11).toInt64 * (1103515245 : Int64)) + (12345 : Int64)) &&& (2147483647 : Int64)).toInt32) fun w1 =>
  (if (1 : Int32) ≤ a1 then (okb (decide (¬ a1 = 0)) (some ((((hi w1 a0 11) / (65536 : Int32)) - ((hi w1 a0 11) / (65536 : Int32)) / a1 * a1), w1))) else
  (some ((0 : Int32), w1))))
set_option maxHeartbeats 4000000 in
set_option maxRecDepth 100000 in
theorem rX8_draw {ar : Nat → Nat → Nat} {c0 : Nat → Nat} {sz : Nat} {g : PH} {w w' : HS} {a0 : Nat} {a1 : Int32} {r : Int32} (P : Rel ar c0 sz g w) (hF : FX8_draw w a0 a1 = some (r, w')) : GR ar c0 sz r w' (fX8_draw g a0 a1) := by
  unfold FX8_draw at hF
  unfold fX8_draw
  replace hF := okb_some hF
  obtain ⟨h0, hF⟩ := hF
  replace h0 := P.cls h0
  refine GR.ok (P.rO h0 (by decide)) ?_
  refine GR.bind (P.rI (k := 11) h0 (by decide) (by decide) (by decide)) ?_
  replace hF := bnd_e hF
  obtain ⟨w1, e2, hF⟩ := hF
  obtain ⟨g3, e4, P⟩ := P.putI (k := 11) h0 (by decide) (by decide) (by decide) e2
  refine GR.bind e4 ?_
  by_cases c5 : (1 : Int32) ≤ a1
  · replace hF := ite_t c5 hF
    refine GR.t c5 ?_
    refine GR.bind (P.rI (k := 11) h0 (by decide) (by decide) (by decide)) ?_
    replace hF := okb_some hF
    obtain ⟨h6, hF⟩ := hF
    refine GR.ok h6 ?_
    obtain ⟨f1, f2⟩ := finW hF
    subst f1
    subst f2
    exact GR.ret P
  replace hF := ite_f c5 hF
  refine GR.f c5 ?_
  obtain ⟨f1, f2⟩ := finW hF
  subst f1
  subst f2
  exact GR.ret P
def FX8_drawn_144 (k42 : HS → Nat → Int32 → Nat → Int32 → Int32 → Int32 → Option (Int32 × HS)) (w : HS) (v0 : Nat) (v2 : Int32) (v3 : Nat) (v4 : Int32) (v5 : Int32) (v6 : Int32) : Option (Int32 × HS) :=
  k42 w v0 v2 v3 v4 v5 (v6 + (1 : Int32))
set_option maxHeartbeats 4000000 in
set_option maxRecDepth 100000 in
theorem rX8_drawn_144 {ar : Nat → Nat → Nat} {c0 : Nat → Nat} {sz : Nat} {r : Int32} {w' : HS} {k42 : HS → Nat → Int32 → Nat → Int32 → Int32 → Int32 → Option (Int32 × HS)} {j42 : PH → Nat → Int32 → Nat → Int32 → Int32 → Int32 → Option (Int32 × PH)} (hk42 : ∀ (g : PH) (w : HS) (v0 : Nat) (v2 : Int32) (v3 : Nat) (v4 : Int32) (v5 : Int32) (v6 : Int32), c0 v0 = 8 → Rel ar c0 sz g w → k42 w v0 v2 v3 v4 v5 v6 = some (r, w') → GR ar c0 sz r w' (j42 g v0 v2 v3 v4 v5 v6)) {g : PH} {w : HS} {v0 : Nat} {v2 : Int32} {v3 : Nat} {v4 : Int32} {v5 : Int32} {v6 : Int32} (h0 : c0 v0 = 8) (P : Rel ar c0 sz g w) (hF : FX8_drawn_144 k42 w v0 v2 v3 v4 v5 v6 = some (r, w')) : GR ar c0 sz r w' (fX8_drawn_144 j42 g v0 v2 v3 v4 v5 v6) := by
  unfold FX8_drawn_144 at hF
  unfold fX8_drawn_144
  exact hk42 _ _ _ _ _ _ _ _ h0 P hF
def FX8_drawn_42  : Nat → HS → Nat → Int32 → Nat → Int32 → Int32 → Int32 → Option (Int32 × HS)
  | 0, _, _, _, _, _, _, _ => none
  | n + 1, w, v0, v2, v3, v4, v5, v6 =>
  if v2 ≤ v6 then (bnd (setI w v0 11 v4) fun w2 =>
  (some (v5, w2))) else
  ((FX8_draw w v0 (hi w v0 2)).bind fun q6 =>
  ((FX8_kindAt q6.2 v0 q6.1).bind fun q10 =>
  (q10.1.elim (FX8_drawn_144 (FX8_drawn_42 n) q10.2 v0 v2 v3 v4 v5 v6) (fun p14 =>
  (hp q10.2 v0 5).bind fun p16 =>
  (okb (hc q10.2 p16 == 3) ((FX1_placements q10.2 p14 (hi q10.2 p16 0)).bind fun q19 =>
  ((FX8_draw q19.2 v0 q19.1).bind fun q23 =>
  ((hp q23.2 v0 5).bind fun p27 =>
  (okb (hc q23.2 p27 == 3) ((FX8_draw q23.2 v0 ((1 : Int32) <<< ((hi q23.2 p27 0) &&& 31))).bind fun q30 =>
  ((FX8_draw q30.2 v0 (8 : Int32)).bind fun q34 =>
  ((FX8_aim q34.2 v0 p14 q23.1).bind fun q38 =>
  ((hp q38.2 v0 7).bind fun p42 =>
  ((FX8_stateIn q38.2 v0 p14 q23.1 q30.1).bind fun q44 =>
  ((FX7_go q44.2 p42 p14 v3 q44.1 q34.1).bind fun q48 =>
  (if q48.1 ≤ 0 then (FX8_drawn_144 (FX8_drawn_42 n) q48.2 v0 v2 v3 v4 v5 v6) else
  (FX8_drawn_144 (FX8_drawn_42 n) q48.2 v0 v2 v3 v4 (v5 + (1 : Int32)) v6)))))))))))))))))
set_option maxHeartbeats 4000000 in
set_option maxRecDepth 100000 in
theorem rX8_drawn_42 {ar : Nat → Nat → Nat} {c0 : Nat → Nat} {sz : Nat} {r : Int32} {w' : HS}   : ∀ (n : Nat) (g : PH) (w : HS) (v0 : Nat) (v2 : Int32) (v3 : Nat) (v4 : Int32) (v5 : Int32) (v6 : Int32), c0 v0 = 8 → Rel ar c0 sz g w → FX8_drawn_42  n w v0 v2 v3 v4 v5 v6 = some (r, w') → GR ar c0 sz r w' (fX8_drawn_42  n g v0 v2 v3 v4 v5 v6) := by
  intro n
  induction n with
  | zero =>
    intro g w v0 v2 v3 v4 v5 v6 h0 P hF
    rw [FX8_drawn_42] at hF
    cases hF
  | succ n ih =>
    intro g w v0 v2 v3 v4 v5 v6 h0 P hF
    rw [FX8_drawn_42] at hF
    rw [fX8_drawn_42]
    by_cases c1 : v2 ≤ v6
    · replace hF := ite_t c1 hF
      refine GR.t c1 ?_
      replace hF := bnd_e hF
      obtain ⟨w2, e3, hF⟩ := hF
      obtain ⟨g4, e5, P⟩ := P.putI (k := 11) h0 (by decide) (by decide) (by decide) e3
      refine GR.bind e5 ?_
      obtain ⟨f1, f2⟩ := finW hF
      subst f1
      subst f2
      exact GR.ret P
    replace hF := ite_f c1 hF
    refine GR.f c1 ?_
    refine GR.bind (P.rI (k := 2) h0 (by decide) (by decide) (by decide)) ?_
    replace hF := ob_some hF
    obtain ⟨q6, h7, hF⟩ := hF
    obtain ⟨g8, e9, P⟩ := rX8_draw (r := q6.1) (w' := q6.2) P h7
    refine GR.bind e9 ?_
    replace hF := ob_some hF
    obtain ⟨q10, h11, hF⟩ := hF
    obtain ⟨g12, e13, P⟩ := rX8_kindAt (r := q10.1) (w' := q10.2) P h11
    refine GR.bind e13 ?_
    dsimp only
    by_cases h15 : q10.1 = none
    · replace hF := el_n h15 hF
      refine GR.en h15 ?_
      exact rX8_drawn_144 ih h0 P hF
    obtain ⟨p14, h15⟩ := Option.ne_none_iff_exists'.mp h15
    replace hF := el_s h15 hF
    refine GR.es h15 ?_
    replace hF := ob_some hF
    obtain ⟨p16, h17, hF⟩ := hF
    refine GR.bind (P.getRo (k := 5) h0 (by decide) (by decide) (by decide) h17) ?_
    replace hF := okb_some hF
    obtain ⟨h18, hF⟩ := hF
    replace h18 := P.cls h18
    refine GR.bind (P.rI (k := 0) h18 (by decide) (by decide) (by decide)) ?_
    replace hF := ob_some hF
    obtain ⟨q19, h20, hF⟩ := hF
    obtain ⟨g21, e22, P⟩ := rX1_placements (r := q19.1) (w' := q19.2) P h20
    refine GR.bind e22 ?_
    replace hF := ob_some hF
    obtain ⟨q23, h24, hF⟩ := hF
    obtain ⟨g25, e26, P⟩ := rX8_draw (r := q23.1) (w' := q23.2) P h24
    refine GR.bind e26 ?_
    replace hF := ob_some hF
    obtain ⟨p27, h28, hF⟩ := hF
    refine GR.bind (P.getRo (k := 5) h0 (by decide) (by decide) (by decide) h28) ?_
    replace hF := okb_some hF
    obtain ⟨h29, hF⟩ := hF
    replace h29 := P.cls h29
    refine GR.bind (P.rI (k := 0) h29 (by decide) (by decide) (by decide)) ?_
    replace hF := ob_some hF
    obtain ⟨q30, h31, hF⟩ := hF
    obtain ⟨g32, e33, P⟩ := rX8_draw (r := q30.1) (w' := q30.2) P h31
    refine GR.bind e33 ?_
    replace hF := ob_some hF
    obtain ⟨q34, h35, hF⟩ := hF
    obtain ⟨g36, e37, P⟩ := rX8_draw (r := q34.1) (w' := q34.2) P h35
    refine GR.bind e37 ?_
    replace hF := ob_some hF
    obtain ⟨q38, h39, hF⟩ := hF
    obtain ⟨g40, e41, P⟩ := rX8_aim (r := q38.1) (w' := q38.2) P h39
    refine GR.bind e41 ?_
    replace hF := ob_some hF
    obtain ⟨p42, h43, hF⟩ := hF
    refine GR.bind (P.getRo (k := 7) h0 (by decide) (by decide) (by decide) h43) ?_
    replace hF := ob_some hF
    obtain ⟨q44, h45, hF⟩ := hF
    obtain ⟨g46, e47, P⟩ := rX8_stateIn (r := q44.1) (w' := q44.2) P h45
    refine GR.bind e47 ?_
    replace hF := ob_some hF
    obtain ⟨q48, h49, hF⟩ := hF
    obtain ⟨g50, e51, P⟩ := rX7_go (r := q48.1) (w' := q48.2) P h49
    refine GR.bind e51 ?_
    by_cases c52 : q48.1 ≤ 0
    · replace hF := ite_t c52 hF
      refine GR.t c52 ?_
      exact rX8_drawn_144 ih h0 P hF
    replace hF := ite_f c52 hF
    refine GR.f c52 ?_
    exact rX8_drawn_144 ih h0 P hF
def FX8_drawn (w : HS) (a0 : Nat) (a1 : Int32) (a2 : Int32) : Option (Int32 × HS) :=
  okb (hc w a0 == 8) ((FX8_marchAt w a0 a1).bind fun q1 =>
  (q1.1.elim (some ((-1 : Int32), q1.2)) (fun p5 =>
  if a2 < (1 : Int32) then (some ((-1 : Int32), q1.2)) else
  (if (50 : Int32) < a2 then (some ((-1 : Int32), q1.2)) else
  (if (hi q1.2 a0 2) = 0 then (some ((-1 : Int32), q1.2)) else
  (FX8_drawn_42 FUEL q1.2 a0 a2 p5 (hi q1.2 a0 11) (0 : Int32) (0 : Int32)))))))
set_option maxHeartbeats 4000000 in
set_option maxRecDepth 100000 in
theorem rX8_drawn {ar : Nat → Nat → Nat} {c0 : Nat → Nat} {sz : Nat} {g : PH} {w w' : HS} {a0 : Nat} {a1 : Int32} {a2 : Int32} {r : Int32} (P : Rel ar c0 sz g w) (hF : FX8_drawn w a0 a1 a2 = some (r, w')) : GR ar c0 sz r w' (fX8_drawn g a0 a1 a2) := by
  unfold FX8_drawn at hF
  unfold fX8_drawn
  replace hF := okb_some hF
  obtain ⟨h0, hF⟩ := hF
  replace h0 := P.cls h0
  refine GR.ok (P.rO h0 (by decide)) ?_
  replace hF := ob_some hF
  obtain ⟨q1, h2, hF⟩ := hF
  obtain ⟨g3, e4, P⟩ := rX8_marchAt (r := q1.1) (w' := q1.2) P h2
  refine GR.bind e4 ?_
  dsimp only
  by_cases h6 : q1.1 = none
  · replace hF := el_n h6 hF
    refine GR.en h6 ?_
    obtain ⟨f1, f2⟩ := finW hF
    subst f1
    subst f2
    exact GR.ret P
  obtain ⟨p5, h6⟩ := Option.ne_none_iff_exists'.mp h6
  replace hF := el_s h6 hF
  refine GR.es h6 ?_
  by_cases c7 : a2 < (1 : Int32)
  · replace hF := ite_t c7 hF
    refine GR.t c7 ?_
    obtain ⟨f1, f2⟩ := finW hF
    subst f1
    subst f2
    exact GR.ret P
  replace hF := ite_f c7 hF
  refine GR.f c7 ?_
  by_cases c8 : (50 : Int32) < a2
  · replace hF := ite_t c8 hF
    refine GR.t c8 ?_
    obtain ⟨f1, f2⟩ := finW hF
    subst f1
    subst f2
    exact GR.ret P
  replace hF := ite_f c8 hF
  refine GR.f c8 ?_
  refine GR.bind (P.rI (k := 2) h0 (by decide) (by decide) (by decide)) ?_
  by_cases c9 : (hi q1.2 a0 2) = 0
  · replace hF := ite_t c9 hF
    refine GR.t c9 ?_
    obtain ⟨f1, f2⟩ := finW hF
    subst f1
    subst f2
    exact GR.ret P
  replace hF := ite_f c9 hF
  refine GR.f c9 ?_
  refine GR.bind (P.rI (k := 11) h0 (by decide) (by decide) (by decide)) ?_
  exact rX8_drawn_42  _ _ _ _ _ _ _ _ _ h0 P hF
def FX8_count (w : HS) (a0 : Nat) (a1 : Int32) : Option (Int32 × HS) :=
  okb (hc w a0 == 8) (if a1 = 0 then ((hp w a0 5).bind fun p2 =>
  (okb (hc w p2 == 3) (some ((hi w p2 0), w)))) else
  (if a1 = 1 then (some ((hi w a0 2), w)) else
  (if a1 = 2 then (some ((hi w a0 4), w)) else
  (if a1 = 3 then ((hp w a0 5).bind fun p8 =>
  (okb (hc w p8 == 3) (some ((hi w p8 3), w)))) else
  (if a1 = 4 then ((hp w a0 5).bind fun p12 =>
  (okb (hc w p12 == 3) (some ((hi w p12 4), w)))) else
  (if a1 = 5 then ((hp w a0 5).bind fun p16 =>
  (okb (hc w p16 == 3) (some ((hi w p16 5), w)))) else
  (if a1 = 6 then ((hp w a0 5).bind fun p20 =>
  (okb (hc w p20 == 3) (some ((hi w p20 1), w)))) else
  (if a1 = 7 then ((hp w a0 5).bind fun p24 =>
  (okb (hc w p24 == 3) (some ((hi w p24 8), w)))) else
  (if a1 = 8 then ((hp w a0 6).bind fun p28 =>
  (okb (hc w p28 == 0) (some ((hi w p28 0), w)))) else
  (if a1 = 9 then (some ((hi w a0 11), w)) else
  (if a1 = 10 then ((hp w a0 0).bind fun p33 =>
  (okb (hc w p33 == 6) (some ((hi w p33 1), w)))) else
  (some ((-1 : Int32), w)))))))))))))
set_option maxHeartbeats 4000000 in
set_option maxRecDepth 100000 in
theorem rX8_count {ar : Nat → Nat → Nat} {c0 : Nat → Nat} {sz : Nat} {g : PH} {w w' : HS} {a0 : Nat} {a1 : Int32} {r : Int32} (P : Rel ar c0 sz g w) (hF : FX8_count w a0 a1 = some (r, w')) : GR ar c0 sz r w' (fX8_count g a0 a1) := by
  unfold FX8_count at hF
  unfold fX8_count
  replace hF := okb_some hF
  obtain ⟨h0, hF⟩ := hF
  replace h0 := P.cls h0
  refine GR.ok (P.rO h0 (by decide)) ?_
  by_cases c1 : a1 = 0
  · replace hF := ite_t c1 hF
    refine GR.t c1 ?_
    replace hF := ob_some hF
    obtain ⟨p2, h3, hF⟩ := hF
    refine GR.bind (P.getRo (k := 5) h0 (by decide) (by decide) (by decide) h3) ?_
    replace hF := okb_some hF
    obtain ⟨h4, hF⟩ := hF
    replace h4 := P.cls h4
    refine GR.bind (P.rI (k := 0) h4 (by decide) (by decide) (by decide)) ?_
    obtain ⟨f1, f2⟩ := finW hF
    subst f1
    subst f2
    exact GR.ret P
  replace hF := ite_f c1 hF
  refine GR.f c1 ?_
  by_cases c5 : a1 = 1
  · replace hF := ite_t c5 hF
    refine GR.t c5 ?_
    refine GR.bind (P.rI (k := 2) h0 (by decide) (by decide) (by decide)) ?_
    obtain ⟨f1, f2⟩ := finW hF
    subst f1
    subst f2
    exact GR.ret P
  replace hF := ite_f c5 hF
  refine GR.f c5 ?_
  by_cases c6 : a1 = 2
  · replace hF := ite_t c6 hF
    refine GR.t c6 ?_
    refine GR.bind (P.rI (k := 4) h0 (by decide) (by decide) (by decide)) ?_
    obtain ⟨f1, f2⟩ := finW hF
    subst f1
    subst f2
    exact GR.ret P
  replace hF := ite_f c6 hF
  refine GR.f c6 ?_
  by_cases c7 : a1 = 3
  · replace hF := ite_t c7 hF
    refine GR.t c7 ?_
    replace hF := ob_some hF
    obtain ⟨p8, h9, hF⟩ := hF
    refine GR.bind (P.getRo (k := 5) h0 (by decide) (by decide) (by decide) h9) ?_
    replace hF := okb_some hF
    obtain ⟨h10, hF⟩ := hF
    replace h10 := P.cls h10
    refine GR.bind (P.rI (k := 3) h10 (by decide) (by decide) (by decide)) ?_
    obtain ⟨f1, f2⟩ := finW hF
    subst f1
    subst f2
    exact GR.ret P
  replace hF := ite_f c7 hF
  refine GR.f c7 ?_
  by_cases c11 : a1 = 4
  · replace hF := ite_t c11 hF
    refine GR.t c11 ?_
    replace hF := ob_some hF
    obtain ⟨p12, h13, hF⟩ := hF
    refine GR.bind (P.getRo (k := 5) h0 (by decide) (by decide) (by decide) h13) ?_
    replace hF := okb_some hF
    obtain ⟨h14, hF⟩ := hF
    replace h14 := P.cls h14
    refine GR.bind (P.rI (k := 4) h14 (by decide) (by decide) (by decide)) ?_
    obtain ⟨f1, f2⟩ := finW hF
    subst f1
    subst f2
    exact GR.ret P
  replace hF := ite_f c11 hF
  refine GR.f c11 ?_
  by_cases c15 : a1 = 5
  · replace hF := ite_t c15 hF
    refine GR.t c15 ?_
    replace hF := ob_some hF
    obtain ⟨p16, h17, hF⟩ := hF
    refine GR.bind (P.getRo (k := 5) h0 (by decide) (by decide) (by decide) h17) ?_
    replace hF := okb_some hF
    obtain ⟨h18, hF⟩ := hF
    replace h18 := P.cls h18
    refine GR.bind (P.rI (k := 5) h18 (by decide) (by decide) (by decide)) ?_
    obtain ⟨f1, f2⟩ := finW hF
    subst f1
    subst f2
    exact GR.ret P
  replace hF := ite_f c15 hF
  refine GR.f c15 ?_
  by_cases c19 : a1 = 6
  · replace hF := ite_t c19 hF
    refine GR.t c19 ?_
    replace hF := ob_some hF
    obtain ⟨p20, h21, hF⟩ := hF
    refine GR.bind (P.getRo (k := 5) h0 (by decide) (by decide) (by decide) h21) ?_
    replace hF := okb_some hF
    obtain ⟨h22, hF⟩ := hF
    replace h22 := P.cls h22
    refine GR.bind (P.rI (k := 1) h22 (by decide) (by decide) (by decide)) ?_
    obtain ⟨f1, f2⟩ := finW hF
    subst f1
    subst f2
    exact GR.ret P
  replace hF := ite_f c19 hF
  refine GR.f c19 ?_
  by_cases c23 : a1 = 7
  · replace hF := ite_t c23 hF
    refine GR.t c23 ?_
    replace hF := ob_some hF
    obtain ⟨p24, h25, hF⟩ := hF
    refine GR.bind (P.getRo (k := 5) h0 (by decide) (by decide) (by decide) h25) ?_
    replace hF := okb_some hF
    obtain ⟨h26, hF⟩ := hF
    replace h26 := P.cls h26
    refine GR.bind (P.rI (k := 8) h26 (by decide) (by decide) (by decide)) ?_
    obtain ⟨f1, f2⟩ := finW hF
    subst f1
    subst f2
    exact GR.ret P
  replace hF := ite_f c23 hF
  refine GR.f c23 ?_
  by_cases c27 : a1 = 8
  · replace hF := ite_t c27 hF
    refine GR.t c27 ?_
    replace hF := ob_some hF
    obtain ⟨p28, h29, hF⟩ := hF
    refine GR.bind (P.getRo (k := 6) h0 (by decide) (by decide) (by decide) h29) ?_
    replace hF := okb_some hF
    obtain ⟨h30, hF⟩ := hF
    replace h30 := P.cls h30
    refine GR.bind (P.rI (k := 0) h30 (by decide) (by decide) (by decide)) ?_
    obtain ⟨f1, f2⟩ := finW hF
    subst f1
    subst f2
    exact GR.ret P
  replace hF := ite_f c27 hF
  refine GR.f c27 ?_
  by_cases c31 : a1 = 9
  · replace hF := ite_t c31 hF
    refine GR.t c31 ?_
    refine GR.bind (P.rI (k := 11) h0 (by decide) (by decide) (by decide)) ?_
    obtain ⟨f1, f2⟩ := finW hF
    subst f1
    subst f2
    exact GR.ret P
  replace hF := ite_f c31 hF
  refine GR.f c31 ?_
  by_cases c32 : a1 = 10
  · replace hF := ite_t c32 hF
    refine GR.t c32 ?_
    replace hF := ob_some hF
    obtain ⟨p33, h34, hF⟩ := hF
    refine GR.bind (P.getRo (k := 0) h0 (by decide) (by decide) (by decide) h34) ?_
    replace hF := okb_some hF
    obtain ⟨h35, hF⟩ := hF
    replace h35 := P.cls h35
    refine GR.bind (P.rI (k := 1) h35 (by decide) (by decide) (by decide)) ?_
    obtain ⟨f1, f2⟩ := finW hF
    subst f1
    subst f2
    exact GR.ret P
  replace hF := ite_f c32 hF
  refine GR.f c32 ?_
  obtain ⟨f1, f2⟩ := finW hF
  subst f1
  subst f2
  exact GR.ret P
