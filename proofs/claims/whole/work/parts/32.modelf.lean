def FX9_cell (w : HS) (a0 : Nat) (a1 : Int32) (a2 : Int32) : Option (Int32 × HS) :=
  okb (hc w a0 == 9) ((FX9_isCell w a0 a1).bind fun q1 =>
  (if q1.1 = 0 then (some ((-1 : Int32), q1.2)) else
  ((FX9_isIn q1.2 a2.toInt64 (0 : Int64) (1 : Int64)).bind fun q6 =>
  (if q6.1 = 0 then (some ((-1 : Int32), q6.2)) else
  (if a2 = 0 then (okb (inb ((4 : Int32) + a1) 133) (some ((ha q6.2 a0 16 ((4 : Int32) + a1).toNatClampNeg), q6.2))) else
  ((FX9_bit q6.2 a0 a1).bind fun q13 =>
  (some (q13.1, q13.2))))))))
set_option maxHeartbeats 4000000 in
set_option maxRecDepth 100000 in
theorem rX9_cell {ar : Nat → Nat → Nat} {c0 : Nat → Nat} {sz : Nat} {g : PH} {w w' : HS} {a0 : Nat} {a1 : Int32} {a2 : Int32} {r : Int32} (P : Rel ar c0 sz g w) (hF : FX9_cell w a0 a1 a2 = some (r, w')) : GR ar c0 sz r w' (fX9_cell g a0 a1 a2) := by
  unfold FX9_cell at hF
  unfold fX9_cell
  replace hF := okb_some hF
  obtain ⟨h0, hF⟩ := hF
  replace h0 := P.cls h0
  refine GR.ok (P.rO h0 (by decide)) ?_
  replace hF := ob_some hF
  obtain ⟨q1, h2, hF⟩ := hF
  obtain ⟨g3, e4, P⟩ := rX9_isCell (r := q1.1) (w' := q1.2) P h2
  refine GR.bind e4 ?_
  by_cases c5 : q1.1 = 0
  · replace hF := ite_t c5 hF
    refine GR.t c5 ?_
    obtain ⟨f1, f2⟩ := finW hF
    subst f1
    subst f2
    exact GR.ret P
  replace hF := ite_f c5 hF
  refine GR.f c5 ?_
  replace hF := ob_some hF
  obtain ⟨q6, h7, hF⟩ := hF
  obtain ⟨g8, e9, P⟩ := rX9_isIn (r := q6.1) (w' := q6.2) P h7
  refine GR.bind e9 ?_
  by_cases c10 : q6.1 = 0
  · replace hF := ite_t c10 hF
    refine GR.t c10 ?_
    obtain ⟨f1, f2⟩ := finW hF
    subst f1
    subst f2
    exact GR.ret P
  replace hF := ite_f c10 hF
  refine GR.f c10 ?_
  by_cases c11 : a2 = 0
  · replace hF := ite_t c11 hF
    refine GR.t c11 ?_
    refine GR.bind (P.getRa (k := 16) h0 (by decide) (by decide) (by decide)) ?_
    replace hF := okb_some hF
    obtain ⟨h12, hF⟩ := hF
    refine GR.bind (P.dI (k := 16) (n := ((4 : Int32) + a1).toNatClampNeg) h0 (by decide) (by decide) (by decide) (by decide) h12 rfl) ?_
    obtain ⟨f1, f2⟩ := finW hF
    subst f1
    subst f2
    exact GR.ret P
  replace hF := ite_f c11 hF
  refine GR.f c11 ?_
  replace hF := ob_some hF
  obtain ⟨q13, h14, hF⟩ := hF
  obtain ⟨g15, e16, P⟩ := rX9_bit (r := q13.1) (w' := q13.2) P h14
  refine GR.bind e16 ?_
  obtain ⟨f1, f2⟩ := finW hF
  subst f1
  subst f2
  exact GR.ret P
def FX9_log_40  (w : HS) (v0 : Nat) (v1 : Int32) (v2 : Int32) (s0 : Int32) : Option (Int32 × HS) :=
  if s0 ≤ v1 then (some ((-2 : Int32), w)) else
  (okb (inb (((13 : Int32) + ((2 : Int32) * v1)) + v2) 133) (some ((ha w v0 16 (((13 : Int32) + ((2 : Int32) * v1)) + v2).toNatClampNeg), w)))
set_option maxHeartbeats 4000000 in
set_option maxRecDepth 100000 in
theorem rX9_log_40 {ar : Nat → Nat → Nat} {c0 : Nat → Nat} {sz : Nat} {r : Int32} {w' : HS}   {g : PH} {w : HS} {v0 : Nat} {v1 : Int32} {v2 : Int32} {s0 : Int32} (h0 : c0 v0 = 9) (P : Rel ar c0 sz g w) (hF : FX9_log_40  w v0 v1 v2 s0 = some (r, w')) : GR ar c0 sz r w' (fX9_log_40  g v0 v1 v2 s0) := by
  unfold FX9_log_40 at hF
  unfold fX9_log_40
  by_cases c1 : s0 ≤ v1
  · replace hF := ite_t c1 hF
    refine GR.t c1 ?_
    obtain ⟨f1, f2⟩ := finW hF
    subst f1
    subst f2
    exact GR.ret P
  replace hF := ite_f c1 hF
  refine GR.f c1 ?_
  refine GR.bind (P.getRa (k := 16) h0 (by decide) (by decide) (by decide)) ?_
  replace hF := okb_some hF
  obtain ⟨h2, hF⟩ := hF
  refine GR.bind (P.dI (k := 16) (n := (((13 : Int32) + ((2 : Int32) * v1)) + v2).toNatClampNeg) h0 (by decide) (by decide) (by decide) (by decide) h2 rfl) ?_
  obtain ⟨f1, f2⟩ := finW hF
  subst f1
  subst f2
  exact GR.ret P
def FX9_log (w : HS) (a0 : Nat) (a1 : Int32) (a2 : Int32) : Option (Int32 × HS) :=
  okb (hc w a0 == 9) (if a1 < 0 then (some ((-1 : Int32), w)) else
  ((FX9_isIn w a2.toInt64 (0 : Int64) (1 : Int64)).bind fun q2 =>
  (if q2.1 = 0 then (some ((-1 : Int32), q2.2)) else
  (if (60 : Int32) ≤ (ha q2.2 a0 16 12) then (FX9_log_40 q2.2 a0 a1 a2 (60 : Int32)) else
  (FX9_log_40 q2.2 a0 a1 a2 (ha q2.2 a0 16 12))))))
set_option maxHeartbeats 4000000 in
set_option maxRecDepth 100000 in
theorem rX9_log {ar : Nat → Nat → Nat} {c0 : Nat → Nat} {sz : Nat} {g : PH} {w w' : HS} {a0 : Nat} {a1 : Int32} {a2 : Int32} {r : Int32} (P : Rel ar c0 sz g w) (hF : FX9_log w a0 a1 a2 = some (r, w')) : GR ar c0 sz r w' (fX9_log g a0 a1 a2) := by
  unfold FX9_log at hF
  unfold fX9_log
  replace hF := okb_some hF
  obtain ⟨h0, hF⟩ := hF
  replace h0 := P.cls h0
  refine GR.ok (P.rO h0 (by decide)) ?_
  by_cases c1 : a1 < 0
  · replace hF := ite_t c1 hF
    refine GR.t c1 ?_
    obtain ⟨f1, f2⟩ := finW hF
    subst f1
    subst f2
    exact GR.ret P
  replace hF := ite_f c1 hF
  refine GR.f c1 ?_
  replace hF := ob_some hF
  obtain ⟨q2, h3, hF⟩ := hF
  obtain ⟨g4, e5, P⟩ := rX9_isIn (r := q2.1) (w' := q2.2) P h3
  refine GR.bind e5 ?_
  by_cases c6 : q2.1 = 0
  · replace hF := ite_t c6 hF
    refine GR.t c6 ?_
    obtain ⟨f1, f2⟩ := finW hF
    subst f1
    subst f2
    exact GR.ret P
  replace hF := ite_f c6 hF
  refine GR.f c6 ?_
  refine GR.bind (P.getRa (k := 16) h0 (by decide) (by decide) (by decide)) ?_
  refine GR.bind (P.dI (k := 16) (n := 12) h0 (by decide) (by decide) (by decide) (by decide) (by decide) (by decide)) ?_
  by_cases c7 : (60 : Int32) ≤ (ha q2.2 a0 16 12)
  · replace hF := ite_t c7 hF
    refine GR.t c7 ?_
    exact rX9_log_40  h0 P hF
  replace hF := ite_f c7 hF
  refine GR.f c7 ?_
  refine GR.bind (P.getRa (k := 16) h0 (by decide) (by decide) (by decide)) ?_
  refine GR.bind (P.dI (k := 16) (n := 12) h0 (by decide) (by decide) (by decide) (by decide) (by decide) (by decide)) ?_
  exact rX9_log_40  h0 P hF
def FX9_isAsLogged_18  : Nat → HS → Nat → Int32 → Option (Int32 × HS)
  | 0, _, _, _ => none
  | n + 1, w, v0, v1 =>
  if ((2 : Int32) * (hi w v0 20)) ≤ v1 then (some ((1 : Int32), w)) else
  (if (120 : Int32) ≤ v1 then (some ((1 : Int32), w)) else
  (okb (inb v1 120) (okb (inb ((13 : Int32) + v1) 133) (if (ha w v0 21 v1.toNatClampNeg) = (ha w v0 17 ((13 : Int32) + v1).toNatClampNeg) then (FX9_isAsLogged_18 n w v0 (v1 + (1 : Int32))) else
  (some ((0 : Int32), w))))))
set_option maxHeartbeats 4000000 in
set_option maxRecDepth 100000 in
theorem rX9_isAsLogged_18 {ar : Nat → Nat → Nat} {c0 : Nat → Nat} {sz : Nat} {r : Int32} {w' : HS}   : ∀ (n : Nat) (g : PH) (w : HS) (v0 : Nat) (v1 : Int32), c0 v0 = 9 → Rel ar c0 sz g w → FX9_isAsLogged_18  n w v0 v1 = some (r, w') → GR ar c0 sz r w' (fX9_isAsLogged_18  n g v0 v1) := by
  intro n
  induction n with
  | zero =>
    intro g w v0 v1 h0 P hF
    rw [FX9_isAsLogged_18] at hF
    cases hF
  | succ n ih =>
    intro g w v0 v1 h0 P hF
    rw [FX9_isAsLogged_18] at hF
    rw [fX9_isAsLogged_18]
    refine GR.bind (P.rI (k := 20) h0 (by decide) (by decide) (by decide)) ?_
    by_cases c1 : ((2 : Int32) * (hi w v0 20)) ≤ v1
    · replace hF := ite_t c1 hF
      refine GR.t c1 ?_
      obtain ⟨f1, f2⟩ := finW hF
      subst f1
      subst f2
      exact GR.ret P
    replace hF := ite_f c1 hF
    refine GR.f c1 ?_
    by_cases c2 : (120 : Int32) ≤ v1
    · replace hF := ite_t c2 hF
      refine GR.t c2 ?_
      obtain ⟨f1, f2⟩ := finW hF
      subst f1
      subst f2
      exact GR.ret P
    replace hF := ite_f c2 hF
    refine GR.f c2 ?_
    refine GR.bind (P.getRa (k := 21) h0 (by decide) (by decide) (by decide)) ?_
    replace hF := okb_some hF
    obtain ⟨h3, hF⟩ := hF
    refine GR.bind (P.dI (k := 21) (n := v1.toNatClampNeg) h0 (by decide) (by decide) (by decide) (by decide) h3 rfl) ?_
    refine GR.bind (P.getRa (k := 17) h0 (by decide) (by decide) (by decide)) ?_
    replace hF := okb_some hF
    obtain ⟨h4, hF⟩ := hF
    refine GR.bind (P.dI (k := 17) (n := ((13 : Int32) + v1).toNatClampNeg) h0 (by decide) (by decide) (by decide) (by decide) h4 rfl) ?_
    by_cases c5 : (ha w v0 21 v1.toNatClampNeg) = (ha w v0 17 ((13 : Int32) + v1).toNatClampNeg)
    · replace hF := ite_t c5 hF
      refine GR.t c5 ?_
      exact ih _ _ _ _ h0 P hF
    replace hF := ite_f c5 hF
    refine GR.f c5 ?_
    obtain ⟨f1, f2⟩ := finW hF
    subst f1
    subst f2
    exact GR.ret P
def FX9_isAsLogged (w : HS) (a0 : Nat) : Option (Int32 × HS) :=
  okb (hc w a0 == 9) (if (hi w a0 20) = (ha w a0 17 12) then (FX9_isAsLogged_18 FUEL w a0 (0 : Int32)) else
  (some ((0 : Int32), w)))
set_option maxHeartbeats 4000000 in
set_option maxRecDepth 100000 in
theorem rX9_isAsLogged {ar : Nat → Nat → Nat} {c0 : Nat → Nat} {sz : Nat} {g : PH} {w w' : HS} {a0 : Nat} {r : Int32} (P : Rel ar c0 sz g w) (hF : FX9_isAsLogged w a0 = some (r, w')) : GR ar c0 sz r w' (fX9_isAsLogged g a0) := by
  unfold FX9_isAsLogged at hF
  unfold fX9_isAsLogged
  replace hF := okb_some hF
  obtain ⟨h0, hF⟩ := hF
  replace h0 := P.cls h0
  refine GR.ok (P.rO h0 (by decide)) ?_
  refine GR.bind (P.rI (k := 20) h0 (by decide) (by decide) (by decide)) ?_
  refine GR.bind (P.getRa (k := 17) h0 (by decide) (by decide) (by decide)) ?_
  refine GR.bind (P.dI (k := 17) (n := 12) h0 (by decide) (by decide) (by decide) (by decide) (by decide) (by decide)) ?_
  by_cases c1 : (hi w a0 20) = (ha w a0 17 12)
  · replace hF := ite_t c1 hF
    refine GR.t c1 ?_
    exact rX9_isAsLogged_18  _ _ _ _ _ h0 P hF
  replace hF := ite_f c1 hF
  refine GR.f c1 ?_
  obtain ⟨f1, f2⟩ := finW hF
  subst f1
  subst f2
  exact GR.ret P
def FX9_fitsNow_2  : Nat → HS → Nat → Int32 → Int32 → Option (Int32 × HS)
  | 0, _, _, _, _ => none
  | n + 1, w, v0, v1, v2 =>
  if ((1 : Int32) <<< ((hi w v0 15) &&& 31)) ≤ v2 then (some ((0 : Int32), w)) else
  ((FX9_tries w v0 v1 (hi w v0 23) (hi w v0 24) v2).bind fun q2 =>
  ((FX9_goesThrough q2.2 v0 (ha q2.2 v0 17 10) (ha q2.2 v0 17 11)).bind fun q6 =>
  ((FX9_isAsLogged q6.2 v0).bind fun q10 =>
  (if q10.1 = 0 then (FX9_fitsNow_2 n q10.2 v0 v1 (v2 + (1 : Int32))) else
  (some ((1 : Int32), q10.2))))))
set_option maxHeartbeats 4000000 in
set_option maxRecDepth 100000 in
theorem rX9_fitsNow_2 {ar : Nat → Nat → Nat} {c0 : Nat → Nat} {sz : Nat} {r : Int32} {w' : HS}   : ∀ (n : Nat) (g : PH) (w : HS) (v0 : Nat) (v1 : Int32) (v2 : Int32), c0 v0 = 9 → Rel ar c0 sz g w → FX9_fitsNow_2  n w v0 v1 v2 = some (r, w') → GR ar c0 sz r w' (fX9_fitsNow_2  n g v0 v1 v2) := by
  intro n
  induction n with
  | zero =>
    intro g w v0 v1 v2 h0 P hF
    rw [FX9_fitsNow_2] at hF
    cases hF
  | succ n ih =>
    intro g w v0 v1 v2 h0 P hF
    rw [FX9_fitsNow_2] at hF
    rw [fX9_fitsNow_2]
    refine GR.bind (P.rI (k := 15) h0 (by decide) (by decide) (by decide)) ?_
    by_cases c1 : ((1 : Int32) <<< ((hi w v0 15) &&& 31)) ≤ v2
    · replace hF := ite_t c1 hF
      refine GR.t c1 ?_
      obtain ⟨f1, f2⟩ := finW hF
      subst f1
      subst f2
      exact GR.ret P
    replace hF := ite_f c1 hF
    refine GR.f c1 ?_
    refine GR.bind (P.rI (k := 23) h0 (by decide) (by decide) (by decide)) ?_
    refine GR.bind (P.rI (k := 24) h0 (by decide) (by decide) (by decide)) ?_
    replace hF := ob_some hF
    obtain ⟨q2, h3, hF⟩ := hF
    obtain ⟨g4, e5, P⟩ := rX9_tries (r := q2.1) (w' := q2.2) P h3
    refine GR.bind e5 ?_
    refine GR.bind (P.getRa (k := 17) h0 (by decide) (by decide) (by decide)) ?_
    refine GR.bind (P.dI (k := 17) (n := 10) h0 (by decide) (by decide) (by decide) (by decide) (by decide) (by decide)) ?_
    refine GR.bind (P.getRa (k := 17) h0 (by decide) (by decide) (by decide)) ?_
    refine GR.bind (P.dI (k := 17) (n := 11) h0 (by decide) (by decide) (by decide) (by decide) (by decide) (by decide)) ?_
    replace hF := ob_some hF
    obtain ⟨q6, h7, hF⟩ := hF
    obtain ⟨g8, e9, P⟩ := rX9_goesThrough (r := q6.1) (w' := q6.2) P h7
    refine GR.bind e9 ?_
    replace hF := ob_some hF
    obtain ⟨q10, h11, hF⟩ := hF
    obtain ⟨g12, e13, P⟩ := rX9_isAsLogged (r := q10.1) (w' := q10.2) P h11
    refine GR.bind e13 ?_
    by_cases c14 : q10.1 = 0
    · replace hF := ite_t c14 hF
      refine GR.t c14 ?_
      exact ih _ _ _ _ _ h0 P hF
    replace hF := ite_f c14 hF
    refine GR.f c14 ?_
    obtain ⟨f1, f2⟩ := finW hF
    subst f1
    subst f2
    exact GR.ret P
def FX9_fitsNow (w : HS) (a0 : Nat) (a1 : Int32) : Option (Int32 × HS) :=
  okb (hc w a0 == 9) (FX9_fitsNow_2 FUEL w a0 a1 (0 : Int32))
set_option maxHeartbeats 4000000 in
set_option maxRecDepth 100000 in
theorem rX9_fitsNow {ar : Nat → Nat → Nat} {c0 : Nat → Nat} {sz : Nat} {g : PH} {w w' : HS} {a0 : Nat} {a1 : Int32} {r : Int32} (P : Rel ar c0 sz g w) (hF : FX9_fitsNow w a0 a1 = some (r, w')) : GR ar c0 sz r w' (fX9_fitsNow g a0 a1) := by
  unfold FX9_fitsNow at hF
  unfold fX9_fitsNow
  replace hF := okb_some hF
  obtain ⟨h0, hF⟩ := hF
  replace h0 := P.cls h0
  refine GR.ok (P.rO h0 (by decide)) ?_
  exact rX9_fitsNow_2  _ _ _ _ _ _ h0 P hF
def FX9_gathersFits_103 (k11 : HS → Nat → Int32 → Option (Unit × HS)) (k21 : HS → Nat → Int32 → Int32 → Option (Unit × HS)) (w : HS) (v0 : Nat) (v1 : Int32) (v2 : Int32) : Option (Unit × HS) :=
  k21 w v0 v1 (v2 + (1 : Int32))
set_option maxHeartbeats 4000000 in
set_option maxRecDepth 100000 in
theorem rX9_gathersFits_103 {ar : Nat → Nat → Nat} {c0 : Nat → Nat} {sz : Nat} {r : Unit} {w' : HS} {k11 : HS → Nat → Int32 → Option (Unit × HS)} {j11 : PH → Nat → Int32 → Option (Unit × PH)} {k21 : HS → Nat → Int32 → Int32 → Option (Unit × HS)} {j21 : PH → Nat → Int32 → Int32 → Option (Unit × PH)} (hk11 : ∀ (g : PH) (w : HS) (v0 : Nat) (v1 : Int32), c0 v0 = 9 → Rel ar c0 sz g w → k11 w v0 v1 = some (r, w') → GR ar c0 sz r w' (j11 g v0 v1)) (hk21 : ∀ (g : PH) (w : HS) (v0 : Nat) (v1 : Int32) (v2 : Int32), c0 v0 = 9 → Rel ar c0 sz g w → k21 w v0 v1 v2 = some (r, w') → GR ar c0 sz r w' (j21 g v0 v1 v2)) {g : PH} {w : HS} {v0 : Nat} {v1 : Int32} {v2 : Int32} (h0 : c0 v0 = 9) (P : Rel ar c0 sz g w) (hF : FX9_gathersFits_103 k11 k21 w v0 v1 v2 = some (r, w')) : GR ar c0 sz r w' (fX9_gathersFits_103 j11 j21 g v0 v1 v2) := by
  unfold FX9_gathersFits_103 at hF
  unfold fX9_gathersFits_103
  exact hk21 _ _ _ _ _ h0 P hF
def FX9_gathersFits_21 (k11 : HS → Nat → Int32 → Option (Unit × HS)) : Nat → HS → Nat → Int32 → Int32 → Option (Unit × HS)
  | 0, _, _, _, _ => none
  | n + 1, w, v0, v1, v2 =>
  (FX9_placements w v0 v1).bind fun q1 =>
  (if q1.1 ≤ v2 then (k11 q1.2 v0 (v1 + (1 : Int32))) else
  ((FX9_laysPlace q1.2 v0 v1 v2).bind fun q6 =>
  ((FX9_fitsNow q6.2 v0 v1).bind fun q10 =>
  (if q10.1 = 0 then (FX9_gathersFits_103 (k11) (FX9_gathersFits_21 k11 n) q10.2 v0 v1 v2) else
  (okb (inb ((3 : Int32) * (hi q10.2 v0 36)) 720) (bnd (setA q10.2 v0 35 ((3 : Int32) * (hi q10.2 v0 36)).toNatClampNeg v1) fun w18 =>
  (okb (inb (((3 : Int32) * (hi w18 v0 36)) + (1 : Int32)) 720) (bnd (setA w18 v0 35 (((3 : Int32) * (hi w18 v0 36)) + (1 : Int32)).toNatClampNeg (hi w18 v0 23)) fun w23 =>
  (okb (inb (((3 : Int32) * (hi w23 v0 36)) + (2 : Int32)) 720) (bnd (setA w23 v0 35 (((3 : Int32) * (hi w23 v0 36)) + (2 : Int32)).toNatClampNeg (hi w23 v0 24)) fun w28 =>
  (bnd (setI w28 v0 36 ((hi w28 v0 36) + (1 : Int32))) fun w30 =>
  (FX9_gathersFits_103 (k11) (FX9_gathersFits_21 k11 n) w30 v0 v1 v2))))))))))))
set_option maxHeartbeats 4000000 in
set_option maxRecDepth 100000 in
theorem rX9_gathersFits_21 {ar : Nat → Nat → Nat} {c0 : Nat → Nat} {sz : Nat} {r : Unit} {w' : HS} {k11 : HS → Nat → Int32 → Option (Unit × HS)} {j11 : PH → Nat → Int32 → Option (Unit × PH)} (hk11 : ∀ (g : PH) (w : HS) (v0 : Nat) (v1 : Int32), c0 v0 = 9 → Rel ar c0 sz g w → k11 w v0 v1 = some (r, w') → GR ar c0 sz r w' (j11 g v0 v1)) : ∀ (n : Nat) (g : PH) (w : HS) (v0 : Nat) (v1 : Int32) (v2 : Int32), c0 v0 = 9 → Rel ar c0 sz g w → FX9_gathersFits_21 k11 n w v0 v1 v2 = some (r, w') → GR ar c0 sz r w' (fX9_gathersFits_21 j11 n g v0 v1 v2) := by
  intro n
  induction n with
  | zero =>
    intro g w v0 v1 v2 h0 P hF
    rw [FX9_gathersFits_21] at hF
    cases hF
  | succ n ih =>
    intro g w v0 v1 v2 h0 P hF
    rw [FX9_gathersFits_21] at hF
    rw [fX9_gathersFits_21]
    replace hF := ob_some hF
    obtain ⟨q1, h2, hF⟩ := hF
    obtain ⟨g3, e4, P⟩ := rX9_placements (r := q1.1) (w' := q1.2) P h2
    refine GR.bind e4 ?_
    by_cases c5 : q1.1 ≤ v2
    · replace hF := ite_t c5 hF
      refine GR.t c5 ?_
      exact hk11 _ _ _ _ h0 P hF
    replace hF := ite_f c5 hF
    refine GR.f c5 ?_
    replace hF := ob_some hF
    obtain ⟨q6, h7, hF⟩ := hF
    obtain ⟨g8, e9, P⟩ := rX9_laysPlace (r := q6.1) (w' := q6.2) P h7
    refine GR.bind e9 ?_
    replace hF := ob_some hF
    obtain ⟨q10, h11, hF⟩ := hF
    obtain ⟨g12, e13, P⟩ := rX9_fitsNow (r := q10.1) (w' := q10.2) P h11
    refine GR.bind e13 ?_
    by_cases c14 : q10.1 = 0
    · replace hF := ite_t c14 hF
      refine GR.t c14 ?_
      exact rX9_gathersFits_103 hk11 ih h0 P hF
    replace hF := ite_f c14 hF
    refine GR.f c14 ?_
    refine GR.bind (P.getRa (k := 35) h0 (by decide) (by decide) (by decide)) ?_
    refine GR.bind (P.rI (k := 36) h0 (by decide) (by decide) (by decide)) ?_
    replace hF := okb_some hF
    obtain ⟨h15, hF⟩ := hF
    replace hF := bnd_e hF
    obtain ⟨w18, e19, hF⟩ := hF
    obtain ⟨g16, e17, P⟩ := P.sI (k := 35) (kd := 0) (j := ((3 : Int32) * (hi q10.2 v0 36))) h0 (by decide) (by decide) (by decide) (by decide) h15 rfl e19
    refine GR.bind e17 ?_
    refine GR.bind (P.getRa (k := 35) h0 (by decide) (by decide) (by decide)) ?_
    refine GR.bind (P.rI (k := 36) h0 (by decide) (by decide) (by decide)) ?_
    refine GR.bind (P.rI (k := 23) h0 (by decide) (by decide) (by decide)) ?_
    replace hF := okb_some hF
    obtain ⟨h20, hF⟩ := hF
    replace hF := bnd_e hF
    obtain ⟨w23, e24, hF⟩ := hF
    obtain ⟨g21, e22, P⟩ := P.sI (k := 35) (kd := 0) (j := (((3 : Int32) * (hi w18 v0 36)) + (1 : Int32))) h0 (by decide) (by decide) (by decide) (by decide) h20 rfl e24
    refine GR.bind e22 ?_
    refine GR.bind (P.getRa (k := 35) h0 (by decide) (by decide) (by decide)) ?_
    refine GR.bind (P.rI (k := 36) h0 (by decide) (by decide) (by decide)) ?_
    refine GR.bind (P.rI (k := 24) h0 (by decide) (by decide) (by decide)) ?_
    replace hF := okb_some hF
    obtain ⟨h25, hF⟩ := hF
    replace hF := bnd_e hF
    obtain ⟨w28, e29, hF⟩ := hF
    obtain ⟨g26, e27, P⟩ := P.sI (k := 35) (kd := 0) (j := (((3 : Int32) * (hi w23 v0 36)) + (2 : Int32))) h0 (by decide) (by decide) (by decide) (by decide) h25 rfl e29
    refine GR.bind e27 ?_
    refine GR.bind (P.rI (k := 36) h0 (by decide) (by decide) (by decide)) ?_
    replace hF := bnd_e hF
    obtain ⟨w30, e31, hF⟩ := hF
    obtain ⟨g32, e33, P⟩ := P.putI (k := 36) h0 (by decide) (by decide) (by decide) e31
    refine GR.bind e33 ?_
    exact rX9_gathersFits_103 hk11 ih h0 P hF
def FX9_gathersFits_11  : Nat → HS → Nat → Int32 → Option (Unit × HS)
  | 0, _, _, _ => none
  | n + 1, w, v0, v1 =>
  if (hi w v0 7) ≤ v1 then ((FX9_laysBack w v0).bind fun q2 =>
  (some ((), q2.2))) else
  (FX9_gathersFits_21 (FX9_gathersFits_11 n) FUEL w v0 v1 (0 : Int32))
set_option maxHeartbeats 4000000 in
set_option maxRecDepth 100000 in
theorem rX9_gathersFits_11 {ar : Nat → Nat → Nat} {c0 : Nat → Nat} {sz : Nat} {r : Unit} {w' : HS}   : ∀ (n : Nat) (g : PH) (w : HS) (v0 : Nat) (v1 : Int32), c0 v0 = 9 → Rel ar c0 sz g w → FX9_gathersFits_11  n w v0 v1 = some (r, w') → GR ar c0 sz r w' (fX9_gathersFits_11  n g v0 v1) := by
  intro n
  induction n with
  | zero =>
    intro g w v0 v1 h0 P hF
    rw [FX9_gathersFits_11] at hF
    cases hF
  | succ n ih =>
    intro g w v0 v1 h0 P hF
    rw [FX9_gathersFits_11] at hF
    rw [fX9_gathersFits_11]
    refine GR.bind (P.rI (k := 7) h0 (by decide) (by decide) (by decide)) ?_
    by_cases c1 : (hi w v0 7) ≤ v1
    · replace hF := ite_t c1 hF
      refine GR.t c1 ?_
      replace hF := ob_some hF
      obtain ⟨q2, h3, hF⟩ := hF
      obtain ⟨g4, e5, P⟩ := rX9_laysBack (r := q2.1) (w' := q2.2) P h3
      refine GR.bind e5 ?_
      obtain ⟨f1, f2⟩ := finW hF
      subst f1
      subst f2
      exact GR.ret P
    replace hF := ite_f c1 hF
    refine GR.f c1 ?_
    exact rX9_gathersFits_21 ih _ _ _ _ _ _ h0 P hF
def FX9_gathersFits (w : HS) (a0 : Nat) : Option (Unit × HS) :=
  okb (hc w a0 == 9) (bnd (setI w a0 36 (0 : Int32)) fun w1 =>
  ((FX9_keepsAside w1 a0).bind fun q5 =>
  (FX9_gathersFits_11 FUEL q5.2 a0 (0 : Int32))))
set_option maxHeartbeats 4000000 in
set_option maxRecDepth 100000 in
theorem rX9_gathersFits {ar : Nat → Nat → Nat} {c0 : Nat → Nat} {sz : Nat} {g : PH} {w w' : HS} {a0 : Nat} {r : Unit} (P : Rel ar c0 sz g w) (hF : FX9_gathersFits w a0 = some (r, w')) : GR ar c0 sz r w' (fX9_gathersFits g a0) := by
  unfold FX9_gathersFits at hF
  unfold fX9_gathersFits
  replace hF := okb_some hF
  obtain ⟨h0, hF⟩ := hF
  replace h0 := P.cls h0
  refine GR.ok (P.rO h0 (by decide)) ?_
  replace hF := bnd_e hF
  obtain ⟨w1, e2, hF⟩ := hF
  obtain ⟨g3, e4, P⟩ := P.putI (k := 36) h0 (by decide) (by decide) (by decide) e2
  refine GR.bind e4 ?_
  replace hF := ob_some hF
  obtain ⟨q5, h6, hF⟩ := hF
  obtain ⟨g7, e8, P⟩ := rX9_keepsAside (r := q5.1) (w' := q5.2) P h6
  refine GR.bind e8 ?_
  exact rX9_gathersFits_11  _ _ _ _ _ h0 P hF
def FX9_fits (w : HS) (a0 : Nat) (a1 : Int32) : Option (Int32 × HS) :=
  okb (hc w a0 == 9) ((FX9_isIn w a1.toInt64 (0 : Int64) (3 : Int64)).bind fun q1 =>
  (if q1.1 = 0 then (some ((-1 : Int32), q1.2)) else
  (if 0 ≤ (ha q1.2 a0 16 10) then ((FX9_gathersFits q1.2 a0).bind fun q7 =>
  (if a1 = 0 then (some ((hi q7.2 a0 36), q7.2)) else
  (if (hi q7.2 a0 36) = 0 then (some ((-2 : Int32), q7.2)) else
  (okb (inb (a1 - (1 : Int32)) 720) (some ((ha q7.2 a0 35 (a1 - (1 : Int32)).toNatClampNeg), q7.2)))))) else
  (some ((-1 : Int32), q1.2)))))
set_option maxHeartbeats 4000000 in
set_option maxRecDepth 100000 in
theorem rX9_fits {ar : Nat → Nat → Nat} {c0 : Nat → Nat} {sz : Nat} {g : PH} {w w' : HS} {a0 : Nat} {a1 : Int32} {r : Int32} (P : Rel ar c0 sz g w) (hF : FX9_fits w a0 a1 = some (r, w')) : GR ar c0 sz r w' (fX9_fits g a0 a1) := by
  unfold FX9_fits at hF
  unfold fX9_fits
  replace hF := okb_some hF
  obtain ⟨h0, hF⟩ := hF
  replace h0 := P.cls h0
  refine GR.ok (P.rO h0 (by decide)) ?_
  replace hF := ob_some hF
  obtain ⟨q1, h2, hF⟩ := hF
  obtain ⟨g3, e4, P⟩ := rX9_isIn (r := q1.1) (w' := q1.2) P h2
  refine GR.bind e4 ?_
  by_cases c5 : q1.1 = 0
  · replace hF := ite_t c5 hF
    refine GR.t c5 ?_
    obtain ⟨f1, f2⟩ := finW hF
    subst f1
    subst f2
    exact GR.ret P
  replace hF := ite_f c5 hF
  refine GR.f c5 ?_
  refine GR.bind (P.getRa (k := 16) h0 (by decide) (by decide) (by decide)) ?_
  refine GR.bind (P.dI (k := 16) (n := 10) h0 (by decide) (by decide) (by decide) (by decide) (by decide) (by decide)) ?_
  by_cases c6 : 0 ≤ (ha q1.2 a0 16 10)
  · replace hF := ite_t c6 hF
    refine GR.t c6 ?_
    replace hF := ob_some hF
    obtain ⟨q7, h8, hF⟩ := hF
    obtain ⟨g9, e10, P⟩ := rX9_gathersFits (r := q7.1) (w' := q7.2) P h8
    refine GR.bind e10 ?_
    by_cases c11 : a1 = 0
    · replace hF := ite_t c11 hF
      refine GR.t c11 ?_
      refine GR.bind (P.rI (k := 36) h0 (by decide) (by decide) (by decide)) ?_
      obtain ⟨f1, f2⟩ := finW hF
      subst f1
      subst f2
      exact GR.ret P
    replace hF := ite_f c11 hF
    refine GR.f c11 ?_
    refine GR.bind (P.rI (k := 36) h0 (by decide) (by decide) (by decide)) ?_
    by_cases c12 : (hi q7.2 a0 36) = 0
    · replace hF := ite_t c12 hF
      refine GR.t c12 ?_
      obtain ⟨f1, f2⟩ := finW hF
      subst f1
      subst f2
      exact GR.ret P
    replace hF := ite_f c12 hF
    refine GR.f c12 ?_
    refine GR.bind (P.getRa (k := 35) h0 (by decide) (by decide) (by decide)) ?_
    replace hF := okb_some hF
    obtain ⟨h13, hF⟩ := hF
    refine GR.bind (P.dI (k := 35) (n := (a1 - (1 : Int32)).toNatClampNeg) h0 (by decide) (by decide) (by decide) (by decide) h13 rfl) ?_
    obtain ⟨f1, f2⟩ := finW hF
    subst f1
    subst f2
    exact GR.ret P
  replace hF := ite_f c6 hF
  refine GR.f c6 ?_
  obtain ⟨f1, f2⟩ := finW hF
  subst f1
  subst f2
  exact GR.ret P
def FX9_areAlike_19  : Nat → HS → Nat → Int32 → Int32 → Int32 → Option (Int32 × HS)
  | 0, _, _, _, _, _ => none
  | n + 1, w, v0, v1, v2, v3 =>
  okb (inb v1 240) (if ((2 : Int32) * (ha w v0 37 v1.toNatClampNeg)) ≤ v3 then (some ((1 : Int32), w)) else
  (if (120 : Int32) ≤ v3 then (some ((1 : Int32), w)) else
  (okb (inb (((120 : Int32) * v1) + v3) 28800) (okb (inb (((120 : Int32) * v2) + v3) 28800) (if (ha w v0 38 (((120 : Int32) * v1) + v3).toNatClampNeg) = (ha w v0 38 (((120 : Int32) * v2) + v3).toNatClampNeg) then (FX9_areAlike_19 n w v0 v1 v2 (v3 + (1 : Int32))) else
  (some ((0 : Int32), w)))))))
set_option maxHeartbeats 4000000 in
set_option maxRecDepth 100000 in
theorem rX9_areAlike_19 {ar : Nat → Nat → Nat} {c0 : Nat → Nat} {sz : Nat} {r : Int32} {w' : HS}   : ∀ (n : Nat) (g : PH) (w : HS) (v0 : Nat) (v1 : Int32) (v2 : Int32) (v3 : Int32), c0 v0 = 9 → Rel ar c0 sz g w → FX9_areAlike_19  n w v0 v1 v2 v3 = some (r, w') → GR ar c0 sz r w' (fX9_areAlike_19  n g v0 v1 v2 v3) := by
  intro n
  induction n with
  | zero =>
    intro g w v0 v1 v2 v3 h0 P hF
    rw [FX9_areAlike_19] at hF
    cases hF
  | succ n ih =>
    intro g w v0 v1 v2 v3 h0 P hF
    rw [FX9_areAlike_19] at hF
    rw [fX9_areAlike_19]
    refine GR.bind (P.getRa (k := 37) h0 (by decide) (by decide) (by decide)) ?_
    replace hF := okb_some hF
    obtain ⟨h1, hF⟩ := hF
    refine GR.bind (P.dI (k := 37) (n := v1.toNatClampNeg) h0 (by decide) (by decide) (by decide) (by decide) h1 rfl) ?_
    by_cases c2 : ((2 : Int32) * (ha w v0 37 v1.toNatClampNeg)) ≤ v3
    · replace hF := ite_t c2 hF
      refine GR.t c2 ?_
      obtain ⟨f1, f2⟩ := finW hF
      subst f1
      subst f2
      exact GR.ret P
    replace hF := ite_f c2 hF
    refine GR.f c2 ?_
    by_cases c3 : (120 : Int32) ≤ v3
    · replace hF := ite_t c3 hF
      refine GR.t c3 ?_
      obtain ⟨f1, f2⟩ := finW hF
      subst f1
      subst f2
      exact GR.ret P
    replace hF := ite_f c3 hF
    refine GR.f c3 ?_
    refine GR.bind (P.getRa (k := 38) h0 (by decide) (by decide) (by decide)) ?_
    replace hF := okb_some hF
    obtain ⟨h4, hF⟩ := hF
    refine GR.bind (P.dI (k := 38) (n := (((120 : Int32) * v1) + v3).toNatClampNeg) h0 (by decide) (by decide) (by decide) (by decide) h4 rfl) ?_
    refine GR.bind (P.getRa (k := 38) h0 (by decide) (by decide) (by decide)) ?_
    replace hF := okb_some hF
    obtain ⟨h5, hF⟩ := hF
    refine GR.bind (P.dI (k := 38) (n := (((120 : Int32) * v2) + v3).toNatClampNeg) h0 (by decide) (by decide) (by decide) (by decide) h5 rfl) ?_
    by_cases c6 : (ha w v0 38 (((120 : Int32) * v1) + v3).toNatClampNeg) = (ha w v0 38 (((120 : Int32) * v2) + v3).toNatClampNeg)
    · replace hF := ite_t c6 hF
      refine GR.t c6 ?_
      exact ih _ _ _ _ _ _ h0 P hF
    replace hF := ite_f c6 hF
    refine GR.f c6 ?_
    obtain ⟨f1, f2⟩ := finW hF
    subst f1
    subst f2
    exact GR.ret P
def FX9_areAlike (w : HS) (a0 : Nat) (a1 : Int32) (a2 : Int32) : Option (Int32 × HS) :=
  okb (hc w a0 == 9) (okb (inb a1 240) (okb (inb a2 240) (if (ha w a0 37 a1.toNatClampNeg) = (ha w a0 37 a2.toNatClampNeg) then (FX9_areAlike_19 FUEL w a0 a1 a2 (0 : Int32)) else
  (some ((0 : Int32), w)))))
set_option maxHeartbeats 4000000 in
set_option maxRecDepth 100000 in
theorem rX9_areAlike {ar : Nat → Nat → Nat} {c0 : Nat → Nat} {sz : Nat} {g : PH} {w w' : HS} {a0 : Nat} {a1 : Int32} {a2 : Int32} {r : Int32} (P : Rel ar c0 sz g w) (hF : FX9_areAlike w a0 a1 a2 = some (r, w')) : GR ar c0 sz r w' (fX9_areAlike g a0 a1 a2) := by
  unfold FX9_areAlike at hF
  unfold fX9_areAlike
  replace hF := okb_some hF
  obtain ⟨h0, hF⟩ := hF
  replace h0 := P.cls h0
  refine GR.ok (P.rO h0 (by decide)) ?_
  refine GR.bind (P.getRa (k := 37) h0 (by decide) (by decide) (by decide)) ?_
  replace hF := okb_some hF
  obtain ⟨h1, hF⟩ := hF
  refine GR.bind (P.dI (k := 37) (n := a1.toNatClampNeg) h0 (by decide) (by decide) (by decide) (by decide) h1 rfl) ?_
  refine GR.bind (P.getRa (k := 37) h0 (by decide) (by decide) (by decide)) ?_
  replace hF := okb_some hF
  obtain ⟨h2, hF⟩ := hF
  refine GR.bind (P.dI (k := 37) (n := a2.toNatClampNeg) h0 (by decide) (by decide) (by decide) (by decide) h2 rfl) ?_
  by_cases c3 : (ha w a0 37 a1.toNatClampNeg) = (ha w a0 37 a2.toNatClampNeg)
  · replace hF := ite_t c3 hF
    refine GR.t c3 ?_
    exact rX9_areAlike_19  _ _ _ _ _ _ _ h0 P hF
  replace hF := ite_f c3 hF
  refine GR.f c3 ?_
  obtain ⟨f1, f2⟩ := finW hF
  subst f1
  subst f2
  exact GR.ret P
def FX9_partsOf_104 (k6 : HS → Nat → Int32 → Int32 → Option (Int32 × HS)) (w : HS) (v0 : Nat) (v1 : Int32) (v2 : Int32) : Option (Int32 × HS) :=
  k6 w v0 v1 (v2 + (1 : Int32))
set_option maxHeartbeats 4000000 in
set_option maxRecDepth 100000 in
theorem rX9_partsOf_104 {ar : Nat → Nat → Nat} {c0 : Nat → Nat} {sz : Nat} {r : Int32} {w' : HS} {k6 : HS → Nat → Int32 → Int32 → Option (Int32 × HS)} {j6 : PH → Nat → Int32 → Int32 → Option (Int32 × PH)} (hk6 : ∀ (g : PH) (w : HS) (v0 : Nat) (v1 : Int32) (v2 : Int32), c0 v0 = 9 → Rel ar c0 sz g w → k6 w v0 v1 v2 = some (r, w') → GR ar c0 sz r w' (j6 g v0 v1 v2)) {g : PH} {w : HS} {v0 : Nat} {v1 : Int32} {v2 : Int32} (h0 : c0 v0 = 9) (P : Rel ar c0 sz g w) (hF : FX9_partsOf_104 k6 w v0 v1 v2 = some (r, w')) : GR ar c0 sz r w' (fX9_partsOf_104 j6 g v0 v1 v2) := by
  unfold FX9_partsOf_104 at hF
  unfold fX9_partsOf_104
  exact hk6 _ _ _ _ _ h0 P hF
def FX9_partsOf_65 (k6 : HS → Nat → Int32 → Int32 → Option (Int32 × HS)) : Nat → HS → Nat → Int32 → Int32 → Int32 → Option (Int32 × HS)
  | 0, _, _, _, _, _ => none
  | n + 1, w, v0, v1, v2, v3 =>
  if ((2 : Int32) * (hi w v0 20)) ≤ v3 then (FX9_partsOf_104 (k6) w v0 v1 v2) else
  (if (120 : Int32) ≤ v3 then (FX9_partsOf_104 (k6) w v0 v1 v2) else
  (okb (inb v3 120) (okb (inb (((120 : Int32) * v2) + v3) 28800) (bnd (setA w v0 38 (((120 : Int32) * v2) + v3).toNatClampNeg (ha w v0 21 v3.toNatClampNeg)) fun w7 =>
  (FX9_partsOf_65 k6 n w7 v0 v1 v2 (v3 + (1 : Int32)))))))
set_option maxHeartbeats 4000000 in
set_option maxRecDepth 100000 in
theorem rX9_partsOf_65 {ar : Nat → Nat → Nat} {c0 : Nat → Nat} {sz : Nat} {r : Int32} {w' : HS} {k6 : HS → Nat → Int32 → Int32 → Option (Int32 × HS)} {j6 : PH → Nat → Int32 → Int32 → Option (Int32 × PH)} (hk6 : ∀ (g : PH) (w : HS) (v0 : Nat) (v1 : Int32) (v2 : Int32), c0 v0 = 9 → Rel ar c0 sz g w → k6 w v0 v1 v2 = some (r, w') → GR ar c0 sz r w' (j6 g v0 v1 v2)) : ∀ (n : Nat) (g : PH) (w : HS) (v0 : Nat) (v1 : Int32) (v2 : Int32) (v3 : Int32), c0 v0 = 9 → Rel ar c0 sz g w → FX9_partsOf_65 k6 n w v0 v1 v2 v3 = some (r, w') → GR ar c0 sz r w' (fX9_partsOf_65 j6 n g v0 v1 v2 v3) := by
  intro n
  induction n with
  | zero =>
    intro g w v0 v1 v2 v3 h0 P hF
    rw [FX9_partsOf_65] at hF
    cases hF
  | succ n ih =>
    intro g w v0 v1 v2 v3 h0 P hF
    rw [FX9_partsOf_65] at hF
    rw [fX9_partsOf_65]
    refine GR.bind (P.rI (k := 20) h0 (by decide) (by decide) (by decide)) ?_
    by_cases c1 : ((2 : Int32) * (hi w v0 20)) ≤ v3
    · replace hF := ite_t c1 hF
      refine GR.t c1 ?_
      exact rX9_partsOf_104 hk6 h0 P hF
    replace hF := ite_f c1 hF
    refine GR.f c1 ?_
    by_cases c2 : (120 : Int32) ≤ v3
    · replace hF := ite_t c2 hF
      refine GR.t c2 ?_
      exact rX9_partsOf_104 hk6 h0 P hF
    replace hF := ite_f c2 hF
    refine GR.f c2 ?_
    refine GR.bind (P.getRa (k := 38) h0 (by decide) (by decide) (by decide)) ?_
    refine GR.bind (P.getRa (k := 21) h0 (by decide) (by decide) (by decide)) ?_
    replace hF := okb_some hF
    obtain ⟨h3, hF⟩ := hF
    refine GR.bind (P.dI (k := 21) (n := v3.toNatClampNeg) h0 (by decide) (by decide) (by decide) (by decide) h3 rfl) ?_
    replace hF := okb_some hF
    obtain ⟨h4, hF⟩ := hF
    replace hF := bnd_e hF
    obtain ⟨w7, e8, hF⟩ := hF
    obtain ⟨g5, e6, P⟩ := P.sI (k := 38) (kd := 0) (j := (((120 : Int32) * v2) + v3)) h0 (by decide) (by decide) (by decide) (by decide) h4 rfl e8
    refine GR.bind e6 ?_
    exact ih _ _ _ _ _ _ h0 P hF
def FX9_partsOf_158 (k118 : HS → Nat → Int32 → Int32 → Option (Int32 × HS)) (k132 : HS → Nat → Int32 → Int32 → Int32 → Int32 → Option (Int32 × HS)) (w : HS) (v0 : Nat) (v2 : Int32) (v3 : Int32) (v5 : Int32) (s0 : Int32) (s1 : Int32) : Option (Int32 × HS) :=
  k132 w v0 v2 v3 (s1 + s0) (v5 + (1 : Int32))
set_option maxHeartbeats 4000000 in
set_option maxRecDepth 100000 in
theorem rX9_partsOf_158 {ar : Nat → Nat → Nat} {c0 : Nat → Nat} {sz : Nat} {r : Int32} {w' : HS} {k118 : HS → Nat → Int32 → Int32 → Option (Int32 × HS)} {j118 : PH → Nat → Int32 → Int32 → Option (Int32 × PH)} {k132 : HS → Nat → Int32 → Int32 → Int32 → Int32 → Option (Int32 × HS)} {j132 : PH → Nat → Int32 → Int32 → Int32 → Int32 → Option (Int32 × PH)} (hk118 : ∀ (g : PH) (w : HS) (v0 : Nat) (v2 : Int32) (v3 : Int32), c0 v0 = 9 → Rel ar c0 sz g w → k118 w v0 v2 v3 = some (r, w') → GR ar c0 sz r w' (j118 g v0 v2 v3)) (hk132 : ∀ (g : PH) (w : HS) (v0 : Nat) (v2 : Int32) (v3 : Int32) (v4 : Int32) (v5 : Int32), c0 v0 = 9 → Rel ar c0 sz g w → k132 w v0 v2 v3 v4 v5 = some (r, w') → GR ar c0 sz r w' (j132 g v0 v2 v3 v4 v5)) {g : PH} {w : HS} {v0 : Nat} {v2 : Int32} {v3 : Int32} {v5 : Int32} {s0 : Int32} {s1 : Int32} (h0 : c0 v0 = 9) (P : Rel ar c0 sz g w) (hF : FX9_partsOf_158 k118 k132 w v0 v2 v3 v5 s0 s1 = some (r, w')) : GR ar c0 sz r w' (fX9_partsOf_158 j118 j132 g v0 v2 v3 v5 s0 s1) := by
  unfold FX9_partsOf_158 at hF
  unfold fX9_partsOf_158
  exact hk132 _ _ _ _ _ _ _ h0 P hF
def FX9_partsOf_179 (k118 : HS → Nat → Int32 → Int32 → Option (Int32 × HS)) (w : HS) (v0 : Nat) (v3 : Int32) (s0 : Int32) : Option (Int32 × HS) :=
  k118 w v0 s0 (v3 + (1 : Int32))
set_option maxHeartbeats 4000000 in
set_option maxRecDepth 100000 in
theorem rX9_partsOf_179 {ar : Nat → Nat → Nat} {c0 : Nat → Nat} {sz : Nat} {r : Int32} {w' : HS} {k118 : HS → Nat → Int32 → Int32 → Option (Int32 × HS)} {j118 : PH → Nat → Int32 → Int32 → Option (Int32 × PH)} (hk118 : ∀ (g : PH) (w : HS) (v0 : Nat) (v2 : Int32) (v3 : Int32), c0 v0 = 9 → Rel ar c0 sz g w → k118 w v0 v2 v3 = some (r, w') → GR ar c0 sz r w' (j118 g v0 v2 v3)) {g : PH} {w : HS} {v0 : Nat} {v3 : Int32} {s0 : Int32} (h0 : c0 v0 = 9) (P : Rel ar c0 sz g w) (hF : FX9_partsOf_179 k118 w v0 v3 s0 = some (r, w')) : GR ar c0 sz r w' (fX9_partsOf_179 j118 g v0 v3 s0) := by
  unfold FX9_partsOf_179 at hF
  unfold fX9_partsOf_179
  exact hk118 _ _ _ _ _ h0 P hF
def FX9_partsOf_132 (k118 : HS → Nat → Int32 → Int32 → Option (Int32 × HS)) : Nat → HS → Nat → Int32 → Int32 → Int32 → Int32 → Option (Int32 × HS)
  | 0, _, _, _, _, _, _ => none
  | n + 1, w, v0, v2, v3, v4, v5 =>
  if (hi w v0 36) ≤ v5 then (if v4 ≤ v2 then (FX9_partsOf_179 (k118) w v0 v3 v2) else
  (FX9_partsOf_179 (k118) w v0 v3 v4)) else
  ((FX9_areAlike w v0 v3 v5).bind fun q3 =>
  (if q3.1 = 0 then (FX9_partsOf_158 (k118) (FX9_partsOf_132 k118 n) q3.2 v0 v2 v3 v5 (0 : Int32) v4) else
  (FX9_partsOf_158 (k118) (FX9_partsOf_132 k118 n) q3.2 v0 v2 v3 v5 (1 : Int32) v4)))
set_option maxHeartbeats 4000000 in
set_option maxRecDepth 100000 in
theorem rX9_partsOf_132 {ar : Nat → Nat → Nat} {c0 : Nat → Nat} {sz : Nat} {r : Int32} {w' : HS} {k118 : HS → Nat → Int32 → Int32 → Option (Int32 × HS)} {j118 : PH → Nat → Int32 → Int32 → Option (Int32 × PH)} (hk118 : ∀ (g : PH) (w : HS) (v0 : Nat) (v2 : Int32) (v3 : Int32), c0 v0 = 9 → Rel ar c0 sz g w → k118 w v0 v2 v3 = some (r, w') → GR ar c0 sz r w' (j118 g v0 v2 v3)) : ∀ (n : Nat) (g : PH) (w : HS) (v0 : Nat) (v2 : Int32) (v3 : Int32) (v4 : Int32) (v5 : Int32), c0 v0 = 9 → Rel ar c0 sz g w → FX9_partsOf_132 k118 n w v0 v2 v3 v4 v5 = some (r, w') → GR ar c0 sz r w' (fX9_partsOf_132 j118 n g v0 v2 v3 v4 v5) := by
  intro n
  induction n with
  | zero =>
    intro g w v0 v2 v3 v4 v5 h0 P hF
    rw [FX9_partsOf_132] at hF
    cases hF
  | succ n ih =>
    intro g w v0 v2 v3 v4 v5 h0 P hF
    rw [FX9_partsOf_132] at hF
    rw [fX9_partsOf_132]
    refine GR.bind (P.rI (k := 36) h0 (by decide) (by decide) (by decide)) ?_
    by_cases c1 : (hi w v0 36) ≤ v5
    · replace hF := ite_t c1 hF
      refine GR.t c1 ?_
      by_cases c2 : v4 ≤ v2
      · replace hF := ite_t c2 hF
        refine GR.t c2 ?_
        exact rX9_partsOf_179 hk118 h0 P hF
      replace hF := ite_f c2 hF
      refine GR.f c2 ?_
      exact rX9_partsOf_179 hk118 h0 P hF
    replace hF := ite_f c1 hF
    refine GR.f c1 ?_
    replace hF := ob_some hF
    obtain ⟨q3, h4, hF⟩ := hF
    obtain ⟨g5, e6, P⟩ := rX9_areAlike (r := q3.1) (w' := q3.2) P h4
    refine GR.bind e6 ?_
    by_cases c7 : q3.1 = 0
    · replace hF := ite_t c7 hF
      refine GR.t c7 ?_
      exact rX9_partsOf_158 hk118 ih h0 P hF
    replace hF := ite_f c7 hF
    refine GR.f c7 ?_
    exact rX9_partsOf_158 hk118 ih h0 P hF
def FX9_partsOf_118  : Nat → HS → Nat → Int32 → Int32 → Option (Int32 × HS)
  | 0, _, _, _, _ => none
  | n + 1, w, v0, v2, v3 =>
  if (hi w v0 36) ≤ v3 then (some (v2, w)) else
  (FX9_partsOf_132 (FX9_partsOf_118 n) FUEL w v0 v2 v3 (0 : Int32) (0 : Int32))
set_option maxHeartbeats 4000000 in
set_option maxRecDepth 100000 in
theorem rX9_partsOf_118 {ar : Nat → Nat → Nat} {c0 : Nat → Nat} {sz : Nat} {r : Int32} {w' : HS}   : ∀ (n : Nat) (g : PH) (w : HS) (v0 : Nat) (v2 : Int32) (v3 : Int32), c0 v0 = 9 → Rel ar c0 sz g w → FX9_partsOf_118  n w v0 v2 v3 = some (r, w') → GR ar c0 sz r w' (fX9_partsOf_118  n g v0 v2 v3) := by
  intro n
  induction n with
  | zero =>
    intro g w v0 v2 v3 h0 P hF
    rw [FX9_partsOf_118] at hF
    cases hF
  | succ n ih =>
    intro g w v0 v2 v3 h0 P hF
    rw [FX9_partsOf_118] at hF
    rw [fX9_partsOf_118]
    refine GR.bind (P.rI (k := 36) h0 (by decide) (by decide) (by decide)) ?_
    by_cases c1 : (hi w v0 36) ≤ v3
    · replace hF := ite_t c1 hF
      refine GR.t c1 ?_
      obtain ⟨f1, f2⟩ := finW hF
      subst f1
      subst f2
      exact GR.ret P
    replace hF := ite_f c1 hF
    refine GR.f c1 ?_
    exact rX9_partsOf_132 ih _ _ _ _ _ _ _ _ h0 P hF
def FX9_partsOf_6  : Nat → HS → Nat → Int32 → Int32 → Option (Int32 × HS)
  | 0, _, _, _, _ => none
  | n + 1, w, v0, v1, v2 =>
  if (hi w v0 36) ≤ v2 then ((FX9_laysBack w v0).bind fun q2 =>
  (FX9_partsOf_118 FUEL q2.2 v0 (0 : Int32) (0 : Int32))) else
  (okb (inb ((3 : Int32) * v2) 720) (okb (inb (((3 : Int32) * v2) + (1 : Int32)) 720) (okb (inb (((3 : Int32) * v2) + (2 : Int32)) 720) ((FX9_tries w v0 (ha w v0 35 ((3 : Int32) * v2).toNatClampNeg) (ha w v0 35 (((3 : Int32) * v2) + (1 : Int32)).toNatClampNeg) (ha w v0 35 (((3 : Int32) * v2) + (2 : Int32)).toNatClampNeg) (0 : Int32)).bind fun q9 =>
  ((FX9_goesThrough q9.2 v0 v1 (0 : Int32)).bind fun q13 =>
  (okb (inb v2 240) (bnd (setA q13.2 v0 37 v2.toNatClampNeg (hi q13.2 v0 20)) fun w20 =>
  (FX9_partsOf_65 (FX9_partsOf_6 n) FUEL w20 v0 v1 v2 (0 : Int32)))))))))
set_option maxHeartbeats 4000000 in
set_option maxRecDepth 100000 in
theorem rX9_partsOf_6 {ar : Nat → Nat → Nat} {c0 : Nat → Nat} {sz : Nat} {r : Int32} {w' : HS}   : ∀ (n : Nat) (g : PH) (w : HS) (v0 : Nat) (v1 : Int32) (v2 : Int32), c0 v0 = 9 → Rel ar c0 sz g w → FX9_partsOf_6  n w v0 v1 v2 = some (r, w') → GR ar c0 sz r w' (fX9_partsOf_6  n g v0 v1 v2) := by
  intro n
  induction n with
  | zero =>
    intro g w v0 v1 v2 h0 P hF
    rw [FX9_partsOf_6] at hF
    cases hF
  | succ n ih =>
    intro g w v0 v1 v2 h0 P hF
    rw [FX9_partsOf_6] at hF
    rw [fX9_partsOf_6]
    refine GR.bind (P.rI (k := 36) h0 (by decide) (by decide) (by decide)) ?_
    by_cases c1 : (hi w v0 36) ≤ v2
    · replace hF := ite_t c1 hF
      refine GR.t c1 ?_
      replace hF := ob_some hF
      obtain ⟨q2, h3, hF⟩ := hF
      obtain ⟨g4, e5, P⟩ := rX9_laysBack (r := q2.1) (w' := q2.2) P h3
      refine GR.bind e5 ?_
      exact rX9_partsOf_118  _ _ _ _ _ _ h0 P hF
    replace hF := ite_f c1 hF
    refine GR.f c1 ?_
    refine GR.bind (P.getRa (k := 35) h0 (by decide) (by decide) (by decide)) ?_
    replace hF := okb_some hF
    obtain ⟨h6, hF⟩ := hF
    refine GR.bind (P.dI (k := 35) (n := ((3 : Int32) * v2).toNatClampNeg) h0 (by decide) (by decide) (by decide) (by decide) h6 rfl) ?_
    refine GR.bind (P.getRa (k := 35) h0 (by decide) (by decide) (by decide)) ?_
    replace hF := okb_some hF
    obtain ⟨h7, hF⟩ := hF
    refine GR.bind (P.dI (k := 35) (n := (((3 : Int32) * v2) + (1 : Int32)).toNatClampNeg) h0 (by decide) (by decide) (by decide) (by decide) h7 rfl) ?_
    refine GR.bind (P.getRa (k := 35) h0 (by decide) (by decide) (by decide)) ?_
    replace hF := okb_some hF
    obtain ⟨h8, hF⟩ := hF
    refine GR.bind (P.dI (k := 35) (n := (((3 : Int32) * v2) + (2 : Int32)).toNatClampNeg) h0 (by decide) (by decide) (by decide) (by decide) h8 rfl) ?_
    replace hF := ob_some hF
    obtain ⟨q9, h10, hF⟩ := hF
    obtain ⟨g11, e12, P⟩ := rX9_tries (r := q9.1) (w' := q9.2) P h10
    refine GR.bind e12 ?_
    replace hF := ob_some hF
    obtain ⟨q13, h14, hF⟩ := hF
    obtain ⟨g15, e16, P⟩ := rX9_goesThrough (r := q13.1) (w' := q13.2) P h14
    refine GR.bind e16 ?_
    refine GR.bind (P.getRa (k := 37) h0 (by decide) (by decide) (by decide)) ?_
    refine GR.bind (P.rI (k := 20) h0 (by decide) (by decide) (by decide)) ?_
    replace hF := okb_some hF
    obtain ⟨h17, hF⟩ := hF
    replace hF := bnd_e hF
    obtain ⟨w20, e21, hF⟩ := hF
    obtain ⟨g18, e19, P⟩ := P.sI (k := 37) (kd := 0) (j := v2) h0 (by decide) (by decide) (by decide) (by decide) h17 rfl e21
    refine GR.bind e19 ?_
    exact rX9_partsOf_65 ih _ _ _ _ _ _ _ h0 P hF
def FX9_partsOf (w : HS) (a0 : Nat) (a1 : Int32) : Option (Int32 × HS) :=
  okb (hc w a0 == 9) ((FX9_keepsAside w a0).bind fun q1 =>
  (FX9_partsOf_6 FUEL q1.2 a0 a1 (0 : Int32)))
set_option maxHeartbeats 4000000 in
set_option maxRecDepth 100000 in
theorem rX9_partsOf {ar : Nat → Nat → Nat} {c0 : Nat → Nat} {sz : Nat} {g : PH} {w w' : HS} {a0 : Nat} {a1 : Int32} {r : Int32} (P : Rel ar c0 sz g w) (hF : FX9_partsOf w a0 a1 = some (r, w')) : GR ar c0 sz r w' (fX9_partsOf g a0 a1) := by
  unfold FX9_partsOf at hF
  unfold fX9_partsOf
  replace hF := okb_some hF
  obtain ⟨h0, hF⟩ := hF
  replace h0 := P.cls h0
  refine GR.ok (P.rO h0 (by decide)) ?_
  replace hF := ob_some hF
  obtain ⟨q1, h2, hF⟩ := hF
  obtain ⟨g3, e4, P⟩ := rX9_keepsAside (r := q1.1) (w' := q1.2) P h2
  refine GR.bind e4 ?_
  exact rX9_partsOf_6  _ _ _ _ _ _ h0 P hF
def FX9_parts (w : HS) (a0 : Nat) (a1 : Int32) : Option (Int32 × HS) :=
  okb (hc w a0 == 9) ((FX9_isMarch w a0 a1).bind fun q1 =>
  (if q1.1 = 0 then (some ((-1 : Int32), q1.2)) else
  (if 0 ≤ (ha q1.2 a0 16 10) then ((FX9_gathersFits q1.2 a0).bind fun q7 =>
  ((FX9_partsOf q7.2 a0 a1).bind fun q11 =>
  (some (q11.1, q11.2)))) else
  (some ((-1 : Int32), q1.2)))))
set_option maxHeartbeats 4000000 in
set_option maxRecDepth 100000 in
theorem rX9_parts {ar : Nat → Nat → Nat} {c0 : Nat → Nat} {sz : Nat} {g : PH} {w w' : HS} {a0 : Nat} {a1 : Int32} {r : Int32} (P : Rel ar c0 sz g w) (hF : FX9_parts w a0 a1 = some (r, w')) : GR ar c0 sz r w' (fX9_parts g a0 a1) := by
  unfold FX9_parts at hF
  unfold fX9_parts
  replace hF := okb_some hF
  obtain ⟨h0, hF⟩ := hF
  replace h0 := P.cls h0
  refine GR.ok (P.rO h0 (by decide)) ?_
  replace hF := ob_some hF
  obtain ⟨q1, h2, hF⟩ := hF
  obtain ⟨g3, e4, P⟩ := rX9_isMarch (r := q1.1) (w' := q1.2) P h2
  refine GR.bind e4 ?_
  by_cases c5 : q1.1 = 0
  · replace hF := ite_t c5 hF
    refine GR.t c5 ?_
    obtain ⟨f1, f2⟩ := finW hF
    subst f1
    subst f2
    exact GR.ret P
  replace hF := ite_f c5 hF
  refine GR.f c5 ?_
  refine GR.bind (P.getRa (k := 16) h0 (by decide) (by decide) (by decide)) ?_
  refine GR.bind (P.dI (k := 16) (n := 10) h0 (by decide) (by decide) (by decide) (by decide) (by decide) (by decide)) ?_
  by_cases c6 : 0 ≤ (ha q1.2 a0 16 10)
  · replace hF := ite_t c6 hF
    refine GR.t c6 ?_
    replace hF := ob_some hF
    obtain ⟨q7, h8, hF⟩ := hF
    obtain ⟨g9, e10, P⟩ := rX9_gathersFits (r := q7.1) (w' := q7.2) P h8
    refine GR.bind e10 ?_
    replace hF := ob_some hF
    obtain ⟨q11, h12, hF⟩ := hF
    obtain ⟨g13, e14, P⟩ := rX9_partsOf (r := q11.1) (w' := q11.2) P h12
    refine GR.bind e14 ?_
    obtain ⟨f1, f2⟩ := finW hF
    subst f1
    subst f2
    exact GR.ret P
  replace hF := ite_f c6 hF
  refine GR.f c6 ?_
  obtain ⟨f1, f2⟩ := finW hF
  subst f1
  subst f2
  exact GR.ret P
def FX9_ask_55 (k26 : HS → Nat → Int32 → Int32 → Int32 → Option (Int32 × HS)) (w : HS) (v0 : Nat) (v1 : Int32) (v2 : Int32) (v3 : Int32) : Option (Int32 × HS) :=
  k26 w v0 v1 v2 (v3 + (1 : Int32))
set_option maxHeartbeats 4000000 in
set_option maxRecDepth 100000 in
theorem rX9_ask_55 {ar : Nat → Nat → Nat} {c0 : Nat → Nat} {sz : Nat} {r : Int32} {w' : HS} {k26 : HS → Nat → Int32 → Int32 → Int32 → Option (Int32 × HS)} {j26 : PH → Nat → Int32 → Int32 → Int32 → Option (Int32 × PH)} (hk26 : ∀ (g : PH) (w : HS) (v0 : Nat) (v1 : Int32) (v2 : Int32) (v3 : Int32), c0 v0 = 9 → Rel ar c0 sz g w → k26 w v0 v1 v2 v3 = some (r, w') → GR ar c0 sz r w' (j26 g v0 v1 v2 v3)) {g : PH} {w : HS} {v0 : Nat} {v1 : Int32} {v2 : Int32} {v3 : Int32} (h0 : c0 v0 = 9) (P : Rel ar c0 sz g w) (hF : FX9_ask_55 k26 w v0 v1 v2 v3 = some (r, w')) : GR ar c0 sz r w' (fX9_ask_55 j26 g v0 v1 v2 v3) := by
  unfold FX9_ask_55 at hF
  unfold fX9_ask_55
  exact hk26 _ _ _ _ _ _ h0 P hF
def FX9_ask_26  : Nat → HS → Nat → Int32 → Int32 → Int32 → Option (Int32 × HS)
  | 0, _, _, _, _, _ => none
  | n + 1, w, v0, v1, v2, v3 =>
  if (hi w v0 11) ≤ v3 then (some (v1, w)) else
  ((FX9_partsOf w v0 v3).bind fun q2 =>
  (if q2.1 < v2 then (FX9_ask_55 (FX9_ask_26 n) q2.2 v0 v3 q2.1 v3) else
  (FX9_ask_55 (FX9_ask_26 n) q2.2 v0 v1 v2 v3)))
set_option maxHeartbeats 4000000 in
set_option maxRecDepth 100000 in
theorem rX9_ask_26 {ar : Nat → Nat → Nat} {c0 : Nat → Nat} {sz : Nat} {r : Int32} {w' : HS}   : ∀ (n : Nat) (g : PH) (w : HS) (v0 : Nat) (v1 : Int32) (v2 : Int32) (v3 : Int32), c0 v0 = 9 → Rel ar c0 sz g w → FX9_ask_26  n w v0 v1 v2 v3 = some (r, w') → GR ar c0 sz r w' (fX9_ask_26  n g v0 v1 v2 v3) := by
  intro n
  induction n with
  | zero =>
    intro g w v0 v1 v2 v3 h0 P hF
    rw [FX9_ask_26] at hF
    cases hF
  | succ n ih =>
    intro g w v0 v1 v2 v3 h0 P hF
    rw [FX9_ask_26] at hF
    rw [fX9_ask_26]
    refine GR.bind (P.rI (k := 11) h0 (by decide) (by decide) (by decide)) ?_
    by_cases c1 : (hi w v0 11) ≤ v3
    · replace hF := ite_t c1 hF
      refine GR.t c1 ?_
      obtain ⟨f1, f2⟩ := finW hF
      subst f1
      subst f2
      exact GR.ret P
    replace hF := ite_f c1 hF
    refine GR.f c1 ?_
    replace hF := ob_some hF
    obtain ⟨q2, h3, hF⟩ := hF
    obtain ⟨g4, e5, P⟩ := rX9_partsOf (r := q2.1) (w' := q2.2) P h3
    refine GR.bind e5 ?_
    by_cases c6 : q2.1 < v2
    · replace hF := ite_t c6 hF
      refine GR.t c6 ?_
      exact rX9_ask_55 ih h0 P hF
    replace hF := ite_f c6 hF
    refine GR.f c6 ?_
    exact rX9_ask_55 ih h0 P hF
def FX9_ask (w : HS) (a0 : Nat) : Option (Int32 × HS) :=
  okb (hc w a0 == 9) (if 0 ≤ (ha w a0 16 10) then ((FX9_gathersFits w a0).bind fun q2 =>
  ((FX9_partsOf q2.2 a0 (0 : Int32)).bind fun q6 =>
  (FX9_ask_26 FUEL q6.2 a0 (0 : Int32) q6.1 (1 : Int32)))) else
  (some ((-1 : Int32), w)))
set_option maxHeartbeats 4000000 in
set_option maxRecDepth 100000 in
theorem rX9_ask {ar : Nat → Nat → Nat} {c0 : Nat → Nat} {sz : Nat} {g : PH} {w w' : HS} {a0 : Nat} {r : Int32} (P : Rel ar c0 sz g w) (hF : FX9_ask w a0 = some (r, w')) : GR ar c0 sz r w' (fX9_ask g a0) := by
  unfold FX9_ask at hF
  unfold fX9_ask
  replace hF := okb_some hF
  obtain ⟨h0, hF⟩ := hF
  replace h0 := P.cls h0
  refine GR.ok (P.rO h0 (by decide)) ?_
  refine GR.bind (P.getRa (k := 16) h0 (by decide) (by decide) (by decide)) ?_
  refine GR.bind (P.dI (k := 16) (n := 10) h0 (by decide) (by decide) (by decide) (by decide) (by decide) (by decide)) ?_
  by_cases c1 : 0 ≤ (ha w a0 16 10)
  · replace hF := ite_t c1 hF
    refine GR.t c1 ?_
    replace hF := ob_some hF
    obtain ⟨q2, h3, hF⟩ := hF
    obtain ⟨g4, e5, P⟩ := rX9_gathersFits (r := q2.1) (w' := q2.2) P h3
    refine GR.bind e5 ?_
    replace hF := ob_some hF
    obtain ⟨q6, h7, hF⟩ := hF
    obtain ⟨g8, e9, P⟩ := rX9_partsOf (r := q6.1) (w' := q6.2) P h7
    refine GR.bind e9 ?_
    exact rX9_ask_26  _ _ _ _ _ _ _ h0 P hF
  replace hF := ite_f c1 hF
  refine GR.f c1 ?_
  obtain ⟨f1, f2⟩ := finW hF
  subst f1
  subst f2
  exact GR.ret P
def FX9_draws (w : HS) (a0 : Nat) (a1 : Int32) : Option (Int32 × HS) :=
  okb (hc w a0 == 9) (if 0 ≤ a1 then (bnd (setI w a0 39 a1) fun w2 =>
  (some ((hi w a0 39), w2))) else
  (some ((-1 : Int32), w)))
set_option maxHeartbeats 4000000 in
set_option maxRecDepth 100000 in
theorem rX9_draws {ar : Nat → Nat → Nat} {c0 : Nat → Nat} {sz : Nat} {g : PH} {w w' : HS} {a0 : Nat} {a1 : Int32} {r : Int32} (P : Rel ar c0 sz g w) (hF : FX9_draws w a0 a1 = some (r, w')) : GR ar c0 sz r w' (fX9_draws g a0 a1) := by
  unfold FX9_draws at hF
  unfold fX9_draws
  replace hF := okb_some hF
  obtain ⟨h0, hF⟩ := hF
  replace h0 := P.cls h0
  refine GR.ok (P.rO h0 (by decide)) ?_
  by_cases c1 : 0 ≤ a1
  · replace hF := ite_t c1 hF
    refine GR.t c1 ?_
    refine GR.bind (P.rI (k := 39) h0 (by decide) (by decide) (by decide)) ?_
    replace hF := bnd_e hF
    obtain ⟨w2, e3, hF⟩ := hF
    obtain ⟨g4, e5, P⟩ := P.putI (k := 39) h0 (by decide) (by decide) (by decide) e3
    refine GR.bind e5 ?_
    obtain ⟨f1, f2⟩ := finW hF
    subst f1
    subst f2
    exact GR.ret P
  replace hF := ite_f c1 hF
  refine GR.f c1 ?_
  obtain ⟨f1, f2⟩ := finW hF
  subst f1
  subst f2
  exact GR.ret P
def FX9_draw (w : HS) (a0 : Nat) (a1 : Int32) : Option (Int32 × HS) :=
  okb (hc w a0 == 9) (bnd (setL w a0 40 ((((hl w a0 40) * (1103515245 : Int64)) + (12345 : Int64)) - (((hl w a0 40) * (1103515245 : Int64)) + (12345 : Int64)) / (2147483648 : Int64) * (2147483648 : Int64))) fun w1 =>
  (okb (decide (¬ a1.toInt64 = 0)) (some ((((hl w1 a0 40) / (65536 : Int64)) - ((hl w1 a0 40) / (65536 : Int64)) / a1.toInt64 * a1.toInt64).toInt32, w1))))
set_option maxHeartbeats 4000000 in
set_option maxRecDepth 100000 in
theorem rX9_draw {ar : Nat → Nat → Nat} {c0 : Nat → Nat} {sz : Nat} {g : PH} {w w' : HS} {a0 : Nat} {a1 : Int32} {r : Int32} (P : Rel ar c0 sz g w) (hF : FX9_draw w a0 a1 = some (r, w')) : GR ar c0 sz r w' (fX9_draw g a0 a1) := by
  unfold FX9_draw at hF
  unfold fX9_draw
  replace hF := okb_some hF
  obtain ⟨h0, hF⟩ := hF
  replace h0 := P.cls h0
  refine GR.ok (P.rO h0 (by decide)) ?_
  refine GR.bind (P.rL (k := 40) h0 (by decide) (by decide) (by decide)) ?_
  replace hF := bnd_e hF
  obtain ⟨w1, e2, hF⟩ := hF
  obtain ⟨g3, e4, P⟩ := P.putL (k := 40) h0 (by decide) (by decide) (by decide) e2
  refine GR.bind e4 ?_
  refine GR.bind (P.rL (k := 40) h0 (by decide) (by decide) (by decide)) ?_
  replace hF := okb_some hF
  obtain ⟨h5, hF⟩ := hF
  refine GR.ok h5 ?_
  obtain ⟨f1, f2⟩ := finW hF
  subst f1
  subst f2
  exact GR.ret P
def FX9_drawn_127 (k47 : HS → Nat → Int32 → Int32 → Int32 → Int32 → Option (Int32 × HS)) (w : HS) (v0 : Nat) (v1 : Int32) (v2 : Int32) (v4 : Int32) (s0 : Int32) (s1 : Int32) : Option (Int32 × HS) :=
  k47 w v0 v1 v2 (s1 + s0) (v4 + (1 : Int32))
set_option maxHeartbeats 4000000 in
set_option maxRecDepth 100000 in
theorem rX9_drawn_127 {ar : Nat → Nat → Nat} {c0 : Nat → Nat} {sz : Nat} {r : Int32} {w' : HS} {k47 : HS → Nat → Int32 → Int32 → Int32 → Int32 → Option (Int32 × HS)} {j47 : PH → Nat → Int32 → Int32 → Int32 → Int32 → Option (Int32 × PH)} (hk47 : ∀ (g : PH) (w : HS) (v0 : Nat) (v1 : Int32) (v2 : Int32) (v3 : Int32) (v4 : Int32), c0 v0 = 9 → Rel ar c0 sz g w → k47 w v0 v1 v2 v3 v4 = some (r, w') → GR ar c0 sz r w' (j47 g v0 v1 v2 v3 v4)) {g : PH} {w : HS} {v0 : Nat} {v1 : Int32} {v2 : Int32} {v4 : Int32} {s0 : Int32} {s1 : Int32} (h0 : c0 v0 = 9) (P : Rel ar c0 sz g w) (hF : FX9_drawn_127 k47 w v0 v1 v2 v4 s0 s1 = some (r, w')) : GR ar c0 sz r w' (fX9_drawn_127 j47 g v0 v1 v2 v4 s0 s1) := by
  unfold FX9_drawn_127 at hF
  unfold fX9_drawn_127
  exact hk47 _ _ _ _ _ _ _ h0 P hF
def FX9_drawn_47  : Nat → HS → Nat → Int32 → Int32 → Int32 → Int32 → Option (Int32 × HS)
  | 0, _, _, _, _, _, _ => none
  | n + 1, w, v0, v1, v2, v3, v4 =>
  if v2 ≤ v4 then ((FX9_laysBack w v0).bind fun q2 =>
  (some (v3, q2.2))) else
  ((FX9_draw w v0 (hi w v0 7)).bind fun q6 =>
  ((FX9_placements q6.2 v0 q6.1).bind fun q10 =>
  ((FX9_draw q10.2 v0 q10.1).bind fun q14 =>
  ((FX9_laysPlace q14.2 v0 q6.1 q14.1).bind fun q18 =>
  ((FX9_draw q18.2 v0 ((1 : Int32) <<< ((hi q18.2 v0 15) &&& 31))).bind fun q22 =>
  ((FX9_tries q22.2 v0 q6.1 (hi q18.2 v0 23) (hi q18.2 v0 24) q22.1).bind fun q26 =>
  ((FX9_draw q26.2 v0 (8 : Int32)).bind fun q30 =>
  ((FX9_goesThrough q30.2 v0 v1 q30.1).bind fun q34 =>
  (if (hi q34.2 v0 20) ≤ 0 then (FX9_drawn_127 (FX9_drawn_47 n) q34.2 v0 v1 v2 v4 (0 : Int32) v3) else
  (FX9_drawn_127 (FX9_drawn_47 n) q34.2 v0 v1 v2 v4 (1 : Int32) v3))))))))))
set_option maxHeartbeats 4000000 in
set_option maxRecDepth 100000 in
theorem rX9_drawn_47 {ar : Nat → Nat → Nat} {c0 : Nat → Nat} {sz : Nat} {r : Int32} {w' : HS}   : ∀ (n : Nat) (g : PH) (w : HS) (v0 : Nat) (v1 : Int32) (v2 : Int32) (v3 : Int32) (v4 : Int32), c0 v0 = 9 → Rel ar c0 sz g w → FX9_drawn_47  n w v0 v1 v2 v3 v4 = some (r, w') → GR ar c0 sz r w' (fX9_drawn_47  n g v0 v1 v2 v3 v4) := by
  intro n
  induction n with
  | zero =>
    intro g w v0 v1 v2 v3 v4 h0 P hF
    rw [FX9_drawn_47] at hF
    cases hF
  | succ n ih =>
    intro g w v0 v1 v2 v3 v4 h0 P hF
    rw [FX9_drawn_47] at hF
    rw [fX9_drawn_47]
    by_cases c1 : v2 ≤ v4
    · replace hF := ite_t c1 hF
      refine GR.t c1 ?_
      replace hF := ob_some hF
      obtain ⟨q2, h3, hF⟩ := hF
      obtain ⟨g4, e5, P⟩ := rX9_laysBack (r := q2.1) (w' := q2.2) P h3
      refine GR.bind e5 ?_
      obtain ⟨f1, f2⟩ := finW hF
      subst f1
      subst f2
      exact GR.ret P
    replace hF := ite_f c1 hF
    refine GR.f c1 ?_
    refine GR.bind (P.rI (k := 7) h0 (by decide) (by decide) (by decide)) ?_
    replace hF := ob_some hF
    obtain ⟨q6, h7, hF⟩ := hF
    obtain ⟨g8, e9, P⟩ := rX9_draw (r := q6.1) (w' := q6.2) P h7
    refine GR.bind e9 ?_
    replace hF := ob_some hF
    obtain ⟨q10, h11, hF⟩ := hF
    obtain ⟨g12, e13, P⟩ := rX9_placements (r := q10.1) (w' := q10.2) P h11
    refine GR.bind e13 ?_
    replace hF := ob_some hF
    obtain ⟨q14, h15, hF⟩ := hF
    obtain ⟨g16, e17, P⟩ := rX9_draw (r := q14.1) (w' := q14.2) P h15
    refine GR.bind e17 ?_
    replace hF := ob_some hF
    obtain ⟨q18, h19, hF⟩ := hF
    obtain ⟨g20, e21, P⟩ := rX9_laysPlace (r := q18.1) (w' := q18.2) P h19
    refine GR.bind e21 ?_
    refine GR.bind (P.rI (k := 23) h0 (by decide) (by decide) (by decide)) ?_
    refine GR.bind (P.rI (k := 24) h0 (by decide) (by decide) (by decide)) ?_
    refine GR.bind (P.rI (k := 15) h0 (by decide) (by decide) (by decide)) ?_
    replace hF := ob_some hF
    obtain ⟨q22, h23, hF⟩ := hF
    obtain ⟨g24, e25, P⟩ := rX9_draw (r := q22.1) (w' := q22.2) P h23
    refine GR.bind e25 ?_
    replace hF := ob_some hF
    obtain ⟨q26, h27, hF⟩ := hF
    obtain ⟨g28, e29, P⟩ := rX9_tries (r := q26.1) (w' := q26.2) P h27
    refine GR.bind e29 ?_
    replace hF := ob_some hF
    obtain ⟨q30, h31, hF⟩ := hF
    obtain ⟨g32, e33, P⟩ := rX9_draw (r := q30.1) (w' := q30.2) P h31
    refine GR.bind e33 ?_
    replace hF := ob_some hF
    obtain ⟨q34, h35, hF⟩ := hF
    obtain ⟨g36, e37, P⟩ := rX9_goesThrough (r := q34.1) (w' := q34.2) P h35
    refine GR.bind e37 ?_
    refine GR.bind (P.rI (k := 20) h0 (by decide) (by decide) (by decide)) ?_
    by_cases c38 : (hi q34.2 v0 20) ≤ 0
    · replace hF := ite_t c38 hF
      refine GR.t c38 ?_
      exact rX9_drawn_127 ih h0 P hF
    replace hF := ite_f c38 hF
    refine GR.f c38 ?_
    exact rX9_drawn_127 ih h0 P hF
def FX9_drawn (w : HS) (a0 : Nat) (a1 : Int32) (a2 : Int32) : Option (Int32 × HS) :=
  okb (hc w a0 == 9) ((FX9_isMarch w a0 a1).bind fun q1 =>
  (if q1.1 = 0 then (some ((-1 : Int32), q1.2)) else
  ((FX9_isIn q1.2 a2.toInt64 (1 : Int64) (50 : Int64)).bind fun q6 =>
  (if q6.1 = 0 then (some ((-1 : Int32), q6.2)) else
  (if (hi q6.2 a0 7) = 0 then (some ((-1 : Int32), q6.2)) else
  (bnd (setL q6.2 a0 40 (hi q6.2 a0 39).toInt64) fun w12 =>
  ((FX9_keepsAside w12 a0).bind fun q16 =>
  (FX9_drawn_47 FUEL q16.2 a0 a1 a2 (0 : Int32) (0 : Int32)))))))))
set_option maxHeartbeats 4000000 in
set_option maxRecDepth 100000 in
theorem rX9_drawn {ar : Nat → Nat → Nat} {c0 : Nat → Nat} {sz : Nat} {g : PH} {w w' : HS} {a0 : Nat} {a1 : Int32} {a2 : Int32} {r : Int32} (P : Rel ar c0 sz g w) (hF : FX9_drawn w a0 a1 a2 = some (r, w')) : GR ar c0 sz r w' (fX9_drawn g a0 a1 a2) := by
  unfold FX9_drawn at hF
  unfold fX9_drawn
  replace hF := okb_some hF
  obtain ⟨h0, hF⟩ := hF
  replace h0 := P.cls h0
  refine GR.ok (P.rO h0 (by decide)) ?_
  replace hF := ob_some hF
  obtain ⟨q1, h2, hF⟩ := hF
  obtain ⟨g3, e4, P⟩ := rX9_isMarch (r := q1.1) (w' := q1.2) P h2
  refine GR.bind e4 ?_
  by_cases c5 : q1.1 = 0
  · replace hF := ite_t c5 hF
    refine GR.t c5 ?_
    obtain ⟨f1, f2⟩ := finW hF
    subst f1
    subst f2
    exact GR.ret P
  replace hF := ite_f c5 hF
  refine GR.f c5 ?_
  replace hF := ob_some hF
  obtain ⟨q6, h7, hF⟩ := hF
  obtain ⟨g8, e9, P⟩ := rX9_isIn (r := q6.1) (w' := q6.2) P h7
  refine GR.bind e9 ?_
  by_cases c10 : q6.1 = 0
  · replace hF := ite_t c10 hF
    refine GR.t c10 ?_
    obtain ⟨f1, f2⟩ := finW hF
    subst f1
    subst f2
    exact GR.ret P
  replace hF := ite_f c10 hF
  refine GR.f c10 ?_
  refine GR.bind (P.rI (k := 7) h0 (by decide) (by decide) (by decide)) ?_
  by_cases c11 : (hi q6.2 a0 7) = 0
  · replace hF := ite_t c11 hF
    refine GR.t c11 ?_
    obtain ⟨f1, f2⟩ := finW hF
    subst f1
    subst f2
    exact GR.ret P
  replace hF := ite_f c11 hF
  refine GR.f c11 ?_
  refine GR.bind (P.rI (k := 39) h0 (by decide) (by decide) (by decide)) ?_
  replace hF := bnd_e hF
  obtain ⟨w12, e13, hF⟩ := hF
  obtain ⟨g14, e15, P⟩ := P.putL (k := 40) h0 (by decide) (by decide) (by decide) e13
  refine GR.bind e15 ?_
  replace hF := ob_some hF
  obtain ⟨q16, h17, hF⟩ := hF
  obtain ⟨g18, e19, P⟩ := rX9_keepsAside (r := q16.1) (w' := q16.2) P h17
  refine GR.bind e19 ?_
  exact rX9_drawn_47  _ _ _ _ _ _ _ _ h0 P hF
def FX9_count (w : HS) (a0 : Nat) (a1 : Int32) : Option (Int32 × HS) :=
  okb (hc w a0 == 9) (if a1 = 0 then (some ((hi w a0 15), w)) else
  (if a1 = 1 then (some ((hi w a0 7), w)) else
  (if a1 = 2 then (some ((hi w a0 11), w)) else
  (if a1 = 3 then (some ((ha w a0 16 1), w)) else
  (if a1 = 4 then (some ((ha w a0 16 2), w)) else
  (if a1 = 5 then (some ((ha w a0 16 3), w)) else
  (if a1 = 6 then (some ((ha w a0 16 0), w)) else
  (if a1 = 7 then (some ((ha w a0 16 12), w)) else
  (if a1 = 8 then (some ((hi w a0 19), w)) else
  (if a1 = 9 then (some ((hi w a0 39), w)) else
  (if a1 = 10 then (some ((hi w a0 1), w)) else
  (some ((-1 : Int32), w)))))))))))))
set_option maxHeartbeats 4000000 in
set_option maxRecDepth 100000 in
theorem rX9_count {ar : Nat → Nat → Nat} {c0 : Nat → Nat} {sz : Nat} {g : PH} {w w' : HS} {a0 : Nat} {a1 : Int32} {r : Int32} (P : Rel ar c0 sz g w) (hF : FX9_count w a0 a1 = some (r, w')) : GR ar c0 sz r w' (fX9_count g a0 a1) := by
  unfold FX9_count at hF
  unfold fX9_count
  replace hF := okb_some hF
  obtain ⟨h0, hF⟩ := hF
  replace h0 := P.cls h0
  refine GR.ok (P.rO h0 (by decide)) ?_
  by_cases c1 : a1 = 0
  · replace hF := ite_t c1 hF
    refine GR.t c1 ?_
    refine GR.bind (P.rI (k := 15) h0 (by decide) (by decide) (by decide)) ?_
    obtain ⟨f1, f2⟩ := finW hF
    subst f1
    subst f2
    exact GR.ret P
  replace hF := ite_f c1 hF
  refine GR.f c1 ?_
  by_cases c2 : a1 = 1
  · replace hF := ite_t c2 hF
    refine GR.t c2 ?_
    refine GR.bind (P.rI (k := 7) h0 (by decide) (by decide) (by decide)) ?_
    obtain ⟨f1, f2⟩ := finW hF
    subst f1
    subst f2
    exact GR.ret P
  replace hF := ite_f c2 hF
  refine GR.f c2 ?_
  by_cases c3 : a1 = 2
  · replace hF := ite_t c3 hF
    refine GR.t c3 ?_
    refine GR.bind (P.rI (k := 11) h0 (by decide) (by decide) (by decide)) ?_
    obtain ⟨f1, f2⟩ := finW hF
    subst f1
    subst f2
    exact GR.ret P
  replace hF := ite_f c3 hF
  refine GR.f c3 ?_
  by_cases c4 : a1 = 3
  · replace hF := ite_t c4 hF
    refine GR.t c4 ?_
    refine GR.bind (P.getRa (k := 16) h0 (by decide) (by decide) (by decide)) ?_
    refine GR.bind (P.dI (k := 16) (n := 1) h0 (by decide) (by decide) (by decide) (by decide) (by decide) (by decide)) ?_
    obtain ⟨f1, f2⟩ := finW hF
    subst f1
    subst f2
    exact GR.ret P
  replace hF := ite_f c4 hF
  refine GR.f c4 ?_
  by_cases c5 : a1 = 4
  · replace hF := ite_t c5 hF
    refine GR.t c5 ?_
    refine GR.bind (P.getRa (k := 16) h0 (by decide) (by decide) (by decide)) ?_
    refine GR.bind (P.dI (k := 16) (n := 2) h0 (by decide) (by decide) (by decide) (by decide) (by decide) (by decide)) ?_
    obtain ⟨f1, f2⟩ := finW hF
    subst f1
    subst f2
    exact GR.ret P
  replace hF := ite_f c5 hF
  refine GR.f c5 ?_
  by_cases c6 : a1 = 5
  · replace hF := ite_t c6 hF
    refine GR.t c6 ?_
    refine GR.bind (P.getRa (k := 16) h0 (by decide) (by decide) (by decide)) ?_
    refine GR.bind (P.dI (k := 16) (n := 3) h0 (by decide) (by decide) (by decide) (by decide) (by decide) (by decide)) ?_
    obtain ⟨f1, f2⟩ := finW hF
    subst f1
    subst f2
    exact GR.ret P
  replace hF := ite_f c6 hF
  refine GR.f c6 ?_
  by_cases c7 : a1 = 6
  · replace hF := ite_t c7 hF
    refine GR.t c7 ?_
    refine GR.bind (P.getRa (k := 16) h0 (by decide) (by decide) (by decide)) ?_
    refine GR.bind (P.dI (k := 16) (n := 0) h0 (by decide) (by decide) (by decide) (by decide) (by decide) (by decide)) ?_
    obtain ⟨f1, f2⟩ := finW hF
    subst f1
    subst f2
    exact GR.ret P
  replace hF := ite_f c7 hF
  refine GR.f c7 ?_
  by_cases c8 : a1 = 7
  · replace hF := ite_t c8 hF
    refine GR.t c8 ?_
    refine GR.bind (P.getRa (k := 16) h0 (by decide) (by decide) (by decide)) ?_
    refine GR.bind (P.dI (k := 16) (n := 12) h0 (by decide) (by decide) (by decide) (by decide) (by decide) (by decide)) ?_
    obtain ⟨f1, f2⟩ := finW hF
    subst f1
    subst f2
    exact GR.ret P
  replace hF := ite_f c8 hF
  refine GR.f c8 ?_
  by_cases c9 : a1 = 8
  · replace hF := ite_t c9 hF
    refine GR.t c9 ?_
    refine GR.bind (P.rI (k := 19) h0 (by decide) (by decide) (by decide)) ?_
    obtain ⟨f1, f2⟩ := finW hF
    subst f1
    subst f2
    exact GR.ret P
  replace hF := ite_f c9 hF
  refine GR.f c9 ?_
  by_cases c10 : a1 = 9
  · replace hF := ite_t c10 hF
    refine GR.t c10 ?_
    refine GR.bind (P.rI (k := 39) h0 (by decide) (by decide) (by decide)) ?_
    obtain ⟨f1, f2⟩ := finW hF
    subst f1
    subst f2
    exact GR.ret P
  replace hF := ite_f c10 hF
  refine GR.f c10 ?_
  by_cases c11 : a1 = 10
  · replace hF := ite_t c11 hF
    refine GR.t c11 ?_
    refine GR.bind (P.rI (k := 1) h0 (by decide) (by decide) (by decide)) ?_
    obtain ⟨f1, f2⟩ := finW hF
    subst f1
    subst f2
    exact GR.ret P
  replace hF := ite_f c11 hF
  refine GR.f c11 ?_
  obtain ⟨f1, f2⟩ := finW hF
  subst f1
  subst f2
  exact GR.ret P
