def FX9_escape_82 (k41 : HS → Nat → Int32 → Int32 → Int32 → Int32 → Int32 → Int32 → Option (Int32 × HS)) (w : HS) (v0 : Nat) (v1 : Int32) (v2 : Int32) (v3 : Int32) (v4 : Int32) (v5 : Int32) (v6 : Int32) : Option (Int32 × HS) :=
  k41 w v0 v1 v2 v3 v4 v5 (v6 + (1 : Int32))
set_option maxHeartbeats 4000000 in
set_option maxRecDepth 100000 in
theorem rX9_escape_82 {ar : Nat → Nat → Nat} {c0 : Nat → Nat} {sz : Nat} {r : Int32} {w' : HS} {k41 : HS → Nat → Int32 → Int32 → Int32 → Int32 → Int32 → Int32 → Option (Int32 × HS)} {j41 : PH → Nat → Int32 → Int32 → Int32 → Int32 → Int32 → Int32 → Option (Int32 × PH)} (hk41 : ∀ (g : PH) (w : HS) (v0 : Nat) (v1 : Int32) (v2 : Int32) (v3 : Int32) (v4 : Int32) (v5 : Int32) (v6 : Int32), c0 v0 = 9 → Rel ar c0 sz g w → k41 w v0 v1 v2 v3 v4 v5 v6 = some (r, w') → GR ar c0 sz r w' (j41 g v0 v1 v2 v3 v4 v5 v6)) {g : PH} {w : HS} {v0 : Nat} {v1 : Int32} {v2 : Int32} {v3 : Int32} {v4 : Int32} {v5 : Int32} {v6 : Int32} (h0 : c0 v0 = 9) (P : Rel ar c0 sz g w) (hF : FX9_escape_82 k41 w v0 v1 v2 v3 v4 v5 v6 = some (r, w')) : GR ar c0 sz r w' (fX9_escape_82 j41 g v0 v1 v2 v3 v4 v5 v6) := by
  unfold FX9_escape_82 at hF
  unfold fX9_escape_82
  exact hk41 _ _ _ _ _ _ _ _ _ h0 P hF
def FX9_escape_74 (k41 : HS → Nat → Int32 → Int32 → Int32 → Int32 → Int32 → Int32 → Option (Int32 × HS)) (w : HS) (v0 : Nat) (v1 : Int32) (v2 : Int32) (v3 : Int32) (v4 : Int32) (v6 : Int32) : Option (Int32 × HS) :=
  (FX9_escapeOf w v0 v1 v2).bind fun q1 =>
  (FX9_escape_82 (k41) q1.2 v0 v1 v2 v3 v4 q1.1 v6)
set_option maxHeartbeats 4000000 in
set_option maxRecDepth 100000 in
theorem rX9_escape_74 {ar : Nat → Nat → Nat} {c0 : Nat → Nat} {sz : Nat} {r : Int32} {w' : HS} {k41 : HS → Nat → Int32 → Int32 → Int32 → Int32 → Int32 → Int32 → Option (Int32 × HS)} {j41 : PH → Nat → Int32 → Int32 → Int32 → Int32 → Int32 → Int32 → Option (Int32 × PH)} (hk41 : ∀ (g : PH) (w : HS) (v0 : Nat) (v1 : Int32) (v2 : Int32) (v3 : Int32) (v4 : Int32) (v5 : Int32) (v6 : Int32), c0 v0 = 9 → Rel ar c0 sz g w → k41 w v0 v1 v2 v3 v4 v5 v6 = some (r, w') → GR ar c0 sz r w' (j41 g v0 v1 v2 v3 v4 v5 v6)) {g : PH} {w : HS} {v0 : Nat} {v1 : Int32} {v2 : Int32} {v3 : Int32} {v4 : Int32} {v6 : Int32} (h0 : c0 v0 = 9) (P : Rel ar c0 sz g w) (hF : FX9_escape_74 k41 w v0 v1 v2 v3 v4 v6 = some (r, w')) : GR ar c0 sz r w' (fX9_escape_74 j41 g v0 v1 v2 v3 v4 v6) := by
  unfold FX9_escape_74 at hF
  unfold fX9_escape_74
  replace hF := ob_some hF
  obtain ⟨q1, h2, hF⟩ := hF
  obtain ⟨g3, e4, P⟩ := rX9_escapeOf (r := q1.1) (w' := q1.2) P h2
  refine GR.bind e4 ?_
  exact rX9_escape_82 hk41 h0 P hF
def FX9_escape_88  (w : HS) (v0 : Nat) (v4 : Int32) (v5 : Int32) : Option (Int32 × HS) :=
  (FX9_laysBack w v0).bind fun q1 =>
  (if 0 ≤ v5 then (if v4 = 0 then (some ((hi q1.2 v0 24), q1.2)) else
  (if v4 = (1 : Int32) then (some ((hi q1.2 v0 23), q1.2)) else
  (if v4 = (2 : Int32) then (some ((v5 / (8 : Int32)), q1.2)) else
  (some ((v5 - v5 / (8 : Int32) * (8 : Int32)), q1.2))))) else
  (some ((-2 : Int32), q1.2)))
set_option maxHeartbeats 4000000 in
set_option maxRecDepth 100000 in
theorem rX9_escape_88 {ar : Nat → Nat → Nat} {c0 : Nat → Nat} {sz : Nat} {r : Int32} {w' : HS}   {g : PH} {w : HS} {v0 : Nat} {v4 : Int32} {v5 : Int32} (h0 : c0 v0 = 9) (P : Rel ar c0 sz g w) (hF : FX9_escape_88  w v0 v4 v5 = some (r, w')) : GR ar c0 sz r w' (fX9_escape_88  g v0 v4 v5) := by
  unfold FX9_escape_88 at hF
  unfold fX9_escape_88
  replace hF := ob_some hF
  obtain ⟨q1, h2, hF⟩ := hF
  obtain ⟨g3, e4, P⟩ := rX9_laysBack (r := q1.1) (w' := q1.2) P h2
  refine GR.bind e4 ?_
  by_cases c5 : 0 ≤ v5
  · replace hF := ite_t c5 hF
    refine GR.t c5 ?_
    by_cases c6 : v4 = 0
    · replace hF := ite_t c6 hF
      refine GR.t c6 ?_
      refine GR.bind (P.rI (k := 24) h0 (by decide) (by decide) (by decide)) ?_
      obtain ⟨f1, f2⟩ := finW hF
      subst f1
      subst f2
      exact GR.ret P
    replace hF := ite_f c6 hF
    refine GR.f c6 ?_
    by_cases c7 : v4 = (1 : Int32)
    · replace hF := ite_t c7 hF
      refine GR.t c7 ?_
      refine GR.bind (P.rI (k := 23) h0 (by decide) (by decide) (by decide)) ?_
      obtain ⟨f1, f2⟩ := finW hF
      subst f1
      subst f2
      exact GR.ret P
    replace hF := ite_f c7 hF
    refine GR.f c7 ?_
    by_cases c8 : v4 = (2 : Int32)
    · replace hF := ite_t c8 hF
      refine GR.t c8 ?_
      obtain ⟨f1, f2⟩ := finW hF
      subst f1
      subst f2
      exact GR.ret P
    replace hF := ite_f c8 hF
    refine GR.f c8 ?_
    obtain ⟨f1, f2⟩ := finW hF
    subst f1
    subst f2
    exact GR.ret P
  replace hF := ite_f c5 hF
  refine GR.f c5 ?_
  obtain ⟨f1, f2⟩ := finW hF
  subst f1
  subst f2
  exact GR.ret P
def FX9_escape_41  : Nat → HS → Nat → Int32 → Int32 → Int32 → Int32 → Int32 → Int32 → Option (Int32 × HS)
  | 0, _, _, _, _, _, _, _, _ => none
  | n + 1, w, v0, v1, v2, v3, v4, v5, v6 =>
  (FX9_placements w v0 v2).bind fun q1 =>
  (if q1.1 ≤ v6 then (FX9_escape_88 q1.2 v0 v4 v5) else
  (if 0 ≤ v5 then (FX9_escape_88 q1.2 v0 v4 v5) else
  ((FX9_laysPlace q1.2 v0 v2 v6).bind fun q7 =>
  (if v3 = 0 then (FX9_escape_74 (FX9_escape_41 n) q7.2 v0 v1 v2 v3 v4 v6) else
  ((FX9_isNear q7.2 v0).bind fun q12 =>
  (if q12.1 = 0 then (FX9_escape_82 (FX9_escape_41 n) q12.2 v0 v1 v2 v3 v4 v5 v6) else
  (FX9_escape_74 (FX9_escape_41 n) q12.2 v0 v1 v2 v3 v4 v6)))))))
set_option maxHeartbeats 4000000 in
set_option maxRecDepth 100000 in
theorem rX9_escape_41 {ar : Nat → Nat → Nat} {c0 : Nat → Nat} {sz : Nat} {r : Int32} {w' : HS}   : ∀ (n : Nat) (g : PH) (w : HS) (v0 : Nat) (v1 : Int32) (v2 : Int32) (v3 : Int32) (v4 : Int32) (v5 : Int32) (v6 : Int32), c0 v0 = 9 → Rel ar c0 sz g w → FX9_escape_41  n w v0 v1 v2 v3 v4 v5 v6 = some (r, w') → GR ar c0 sz r w' (fX9_escape_41  n g v0 v1 v2 v3 v4 v5 v6) := by
  intro n
  induction n with
  | zero =>
    intro g w v0 v1 v2 v3 v4 v5 v6 h0 P hF
    rw [FX9_escape_41] at hF
    cases hF
  | succ n ih =>
    intro g w v0 v1 v2 v3 v4 v5 v6 h0 P hF
    rw [FX9_escape_41] at hF
    rw [fX9_escape_41]
    replace hF := ob_some hF
    obtain ⟨q1, h2, hF⟩ := hF
    obtain ⟨g3, e4, P⟩ := rX9_placements (r := q1.1) (w' := q1.2) P h2
    refine GR.bind e4 ?_
    by_cases c5 : q1.1 ≤ v6
    · replace hF := ite_t c5 hF
      refine GR.t c5 ?_
      exact rX9_escape_88  h0 P hF
    replace hF := ite_f c5 hF
    refine GR.f c5 ?_
    by_cases c6 : 0 ≤ v5
    · replace hF := ite_t c6 hF
      refine GR.t c6 ?_
      exact rX9_escape_88  h0 P hF
    replace hF := ite_f c6 hF
    refine GR.f c6 ?_
    replace hF := ob_some hF
    obtain ⟨q7, h8, hF⟩ := hF
    obtain ⟨g9, e10, P⟩ := rX9_laysPlace (r := q7.1) (w' := q7.2) P h8
    refine GR.bind e10 ?_
    by_cases c11 : v3 = 0
    · replace hF := ite_t c11 hF
      refine GR.t c11 ?_
      exact rX9_escape_74 ih h0 P hF
    replace hF := ite_f c11 hF
    refine GR.f c11 ?_
    replace hF := ob_some hF
    obtain ⟨q12, h13, hF⟩ := hF
    obtain ⟨g14, e15, P⟩ := rX9_isNear (r := q12.1) (w' := q12.2) P h13
    refine GR.bind e15 ?_
    by_cases c16 : q12.1 = 0
    · replace hF := ite_t c16 hF
      refine GR.t c16 ?_
      exact rX9_escape_82 ih h0 P hF
    replace hF := ite_f c16 hF
    refine GR.f c16 ?_
    exact rX9_escape_74 ih h0 P hF
def FX9_escape (w : HS) (a0 : Nat) (a1 : Int32) (a2 : Int32) (a3 : Int32) (a4 : Int32) : Option (Int32 × HS) :=
  okb (hc w a0 == 9) ((FX9_isMarch w a0 a1).bind fun q1 =>
  (if q1.1 = 0 then (some ((-1 : Int32), q1.2)) else
  ((FX9_isKind q1.2 a0 a2).bind fun q6 =>
  (if q6.1 = 0 then (some ((-1 : Int32), q6.2)) else
  ((FX9_isIn q6.2 a4.toInt64 (0 : Int64) (3 : Int64)).bind fun q11 =>
  (if q11.1 = 0 then (some ((-1 : Int32), q11.2)) else
  ((FX9_keepsAside q11.2 a0).bind fun q16 =>
  (FX9_escape_41 FUEL q16.2 a0 a1 a2 a3 a4 (-1 : Int32) (0 : Int32)))))))))
set_option maxHeartbeats 4000000 in
set_option maxRecDepth 100000 in
theorem rX9_escape {ar : Nat → Nat → Nat} {c0 : Nat → Nat} {sz : Nat} {g : PH} {w w' : HS} {a0 : Nat} {a1 : Int32} {a2 : Int32} {a3 : Int32} {a4 : Int32} {r : Int32} (P : Rel ar c0 sz g w) (hF : FX9_escape w a0 a1 a2 a3 a4 = some (r, w')) : GR ar c0 sz r w' (fX9_escape g a0 a1 a2 a3 a4) := by
  unfold FX9_escape at hF
  unfold fX9_escape
  replace hF := okb_some hF
  obtain ⟨h0, hF⟩ := hF
  replace h0 := P.cls h0
  refine GR.ok (P.rO h0 (by decide)) ?_
  replace hF := ob_some hF
  obtain ⟨q1, h2, hF⟩ := hF
  obtain ⟨g3, e4, P⟩ := rX9_isMarch (r := q1.1) (w' := q1.2) P h2
  refine GR.bind e4 ?_
  by_cases c5 : q1.1 = 0
  · replace hF := ite_t c5 hF
    refine GR.t c5 ?_
    obtain ⟨f1, f2⟩ := finW hF
    subst f1
    subst f2
    exact GR.ret P
  replace hF := ite_f c5 hF
  refine GR.f c5 ?_
  replace hF := ob_some hF
  obtain ⟨q6, h7, hF⟩ := hF
  obtain ⟨g8, e9, P⟩ := rX9_isKind (r := q6.1) (w' := q6.2) P h7
  refine GR.bind e9 ?_
  by_cases c10 : q6.1 = 0
  · replace hF := ite_t c10 hF
    refine GR.t c10 ?_
    obtain ⟨f1, f2⟩ := finW hF
    subst f1
    subst f2
    exact GR.ret P
  replace hF := ite_f c10 hF
  refine GR.f c10 ?_
  replace hF := ob_some hF
  obtain ⟨q11, h12, hF⟩ := hF
  obtain ⟨g13, e14, P⟩ := rX9_isIn (r := q11.1) (w' := q11.2) P h12
  refine GR.bind e14 ?_
  by_cases c15 : q11.1 = 0
  · replace hF := ite_t c15 hF
    refine GR.t c15 ?_
    obtain ⟨f1, f2⟩ := finW hF
    subst f1
    subst f2
    exact GR.ret P
  replace hF := ite_f c15 hF
  refine GR.f c15 ?_
  replace hF := ob_some hF
  obtain ⟨q16, h17, hF⟩ := hF
  obtain ⟨g18, e19, P⟩ := rX9_keepsAside (r := q16.1) (w' := q16.2) P h17
  refine GR.bind e19 ?_
  exact rX9_escape_41  _ _ _ _ _ _ _ _ _ _ h0 P hF
def FX9_beginsTwo_16  : Nat → HS → Nat → Int32 → Int32 → Option (Int32 × HS)
  | 0, _, _, _, _ => none
  | n + 1, w, v0, v1, v2 =>
  if (6 : Int32) ≤ v2 then (some (v1, w)) else
  (okb (inb ((4 : Int32) + v2) 133) (bnd (setA w v0 16 ((4 : Int32) + v2).toNatClampNeg v2) fun w5 =>
  (FX9_beginsTwo_16 n w5 v0 v1 (v2 + (1 : Int32)))))
set_option maxHeartbeats 4000000 in
set_option maxRecDepth 100000 in
theorem rX9_beginsTwo_16 {ar : Nat → Nat → Nat} {c0 : Nat → Nat} {sz : Nat} {r : Int32} {w' : HS}   : ∀ (n : Nat) (g : PH) (w : HS) (v0 : Nat) (v1 : Int32) (v2 : Int32), c0 v0 = 9 → Rel ar c0 sz g w → FX9_beginsTwo_16  n w v0 v1 v2 = some (r, w') → GR ar c0 sz r w' (fX9_beginsTwo_16  n g v0 v1 v2) := by
  intro n
  induction n with
  | zero =>
    intro g w v0 v1 v2 h0 P hF
    rw [FX9_beginsTwo_16] at hF
    cases hF
  | succ n ih =>
    intro g w v0 v1 v2 h0 P hF
    rw [FX9_beginsTwo_16] at hF
    rw [fX9_beginsTwo_16]
    by_cases c1 : (6 : Int32) ≤ v2
    · replace hF := ite_t c1 hF
      refine GR.t c1 ?_
      obtain ⟨f1, f2⟩ := finW hF
      subst f1
      subst f2
      exact GR.ret P
    replace hF := ite_f c1 hF
    refine GR.f c1 ?_
    refine GR.bind (P.getRa (k := 16) h0 (by decide) (by decide) (by decide)) ?_
    replace hF := okb_some hF
    obtain ⟨h2, hF⟩ := hF
    replace hF := bnd_e hF
    obtain ⟨w5, e6, hF⟩ := hF
    obtain ⟨g3, e4, P⟩ := P.sI (k := 16) (kd := 0) (j := ((4 : Int32) + v2)) h0 (by decide) (by decide) (by decide) (by decide) h2 rfl e6
    refine GR.bind e4 ?_
    exact ih _ _ _ _ _ h0 P hF
def FX9_beginsTwo (w : HS) (a0 : Nat) : Option (Int32 × HS) :=
  okb (hc w a0 == 9) ((FX9_keepsAside w a0).bind fun q1 =>
  (bnd (setI q1.2 a0 15 (2 : Int32)) fun w5 =>
  (FX9_beginsTwo_16 FUEL w5 a0 (hi w a0 15) (0 : Int32))))
set_option maxHeartbeats 4000000 in
set_option maxRecDepth 100000 in
theorem rX9_beginsTwo {ar : Nat → Nat → Nat} {c0 : Nat → Nat} {sz : Nat} {g : PH} {w w' : HS} {a0 : Nat} {r : Int32} (P : Rel ar c0 sz g w) (hF : FX9_beginsTwo w a0 = some (r, w')) : GR ar c0 sz r w' (fX9_beginsTwo g a0) := by
  unfold FX9_beginsTwo at hF
  unfold fX9_beginsTwo
  replace hF := okb_some hF
  obtain ⟨h0, hF⟩ := hF
  replace h0 := P.cls h0
  refine GR.ok (P.rO h0 (by decide)) ?_
  refine GR.bind (P.rI (k := 15) h0 (by decide) (by decide) (by decide)) ?_
  replace hF := ob_some hF
  obtain ⟨q1, h2, hF⟩ := hF
  obtain ⟨g3, e4, P⟩ := rX9_keepsAside (r := q1.1) (w' := q1.2) P h2
  refine GR.bind e4 ?_
  replace hF := bnd_e hF
  obtain ⟨w5, e6, hF⟩ := hF
  obtain ⟨g7, e8, P⟩ := P.putI (k := 15) h0 (by decide) (by decide) (by decide) e6
  refine GR.bind e8 ?_
  exact rX9_beginsTwo_16  _ _ _ _ _ _ h0 P hF
def FX9_onTwo_93 (k29 : HS → Nat → Int32 → Int32 → Int32 → Int32 → Int32 → Option (Int32 × HS)) (w : HS) (v0 : Nat) (v1 : Int32) (v2 : Int32) (v3 : Int32) (v5 : Int32) (s0 : Int32) (s1 : Int32) : Option (Int32 × HS) :=
  k29 w v0 v1 v2 v3 (s1 ||| s0) (v5 + (1 : Int32))
set_option maxHeartbeats 4000000 in
set_option maxRecDepth 100000 in
theorem rX9_onTwo_93 {ar : Nat → Nat → Nat} {c0 : Nat → Nat} {sz : Nat} {r : Int32} {w' : HS} {k29 : HS → Nat → Int32 → Int32 → Int32 → Int32 → Int32 → Option (Int32 × HS)} {j29 : PH → Nat → Int32 → Int32 → Int32 → Int32 → Int32 → Option (Int32 × PH)} (hk29 : ∀ (g : PH) (w : HS) (v0 : Nat) (v1 : Int32) (v2 : Int32) (v3 : Int32) (v4 : Int32) (v5 : Int32), c0 v0 = 9 → Rel ar c0 sz g w → k29 w v0 v1 v2 v3 v4 v5 = some (r, w') → GR ar c0 sz r w' (j29 g v0 v1 v2 v3 v4 v5)) {g : PH} {w : HS} {v0 : Nat} {v1 : Int32} {v2 : Int32} {v3 : Int32} {v5 : Int32} {s0 : Int32} {s1 : Int32} (h0 : c0 v0 = 9) (P : Rel ar c0 sz g w) (hF : FX9_onTwo_93 k29 w v0 v1 v2 v3 v5 s0 s1 = some (r, w')) : GR ar c0 sz r w' (fX9_onTwo_93 j29 g v0 v1 v2 v3 v5 s0 s1) := by
  unfold FX9_onTwo_93 at hF
  unfold fX9_onTwo_93
  exact hk29 _ _ _ _ _ _ _ _ h0 P hF
def FX9_onTwo_71 (k29 : HS → Nat → Int32 → Int32 → Int32 → Int32 → Int32 → Option (Int32 × HS)) (w : HS) (v0 : Nat) (v1 : Int32) (v2 : Int32) (v3 : Int32) (v4 : Int32) (v5 : Int32) (s0 : Int32) (s1 : Nat) : Option (Int32 × HS) :=
  okb (hc w s1 == 9) (bnd (setI w s1 23 s0) fun w2 =>
  ((FX9_escapeOf w2 v0 v1 v2).bind fun q6 =>
  (if 0 ≤ q6.1 then (FX9_onTwo_93 (k29) q6.2 v0 v1 v2 v3 v5 (0 : Int32) v4) else
  (FX9_onTwo_93 (k29) q6.2 v0 v1 v2 v3 v5 ((1 : Int32) <<< (v5 &&& 31)) v4))))
set_option maxHeartbeats 4000000 in
set_option maxRecDepth 100000 in
theorem rX9_onTwo_71 {ar : Nat → Nat → Nat} {c0 : Nat → Nat} {sz : Nat} {r : Int32} {w' : HS} {k29 : HS → Nat → Int32 → Int32 → Int32 → Int32 → Int32 → Option (Int32 × HS)} {j29 : PH → Nat → Int32 → Int32 → Int32 → Int32 → Int32 → Option (Int32 × PH)} (hk29 : ∀ (g : PH) (w : HS) (v0 : Nat) (v1 : Int32) (v2 : Int32) (v3 : Int32) (v4 : Int32) (v5 : Int32), c0 v0 = 9 → Rel ar c0 sz g w → k29 w v0 v1 v2 v3 v4 v5 = some (r, w') → GR ar c0 sz r w' (j29 g v0 v1 v2 v3 v4 v5)) {g : PH} {w : HS} {v0 : Nat} {v1 : Int32} {v2 : Int32} {v3 : Int32} {v4 : Int32} {v5 : Int32} {s0 : Int32} {s1 : Nat} (h0 : c0 v0 = 9) (P : Rel ar c0 sz g w) (hF : FX9_onTwo_71 k29 w v0 v1 v2 v3 v4 v5 s0 s1 = some (r, w')) : GR ar c0 sz r w' (fX9_onTwo_71 j29 g v0 v1 v2 v3 v4 v5 s0 s1) := by
  unfold FX9_onTwo_71 at hF
  unfold fX9_onTwo_71
  replace hF := okb_some hF
  obtain ⟨h1, hF⟩ := hF
  replace h1 := P.cls h1
  replace hF := bnd_e hF
  obtain ⟨w2, e3, hF⟩ := hF
  obtain ⟨g4, e5, P⟩ := P.putI (k := 23) h1 (by decide) (by decide) (by decide) e3
  refine GR.bind e5 ?_
  replace hF := ob_some hF
  obtain ⟨q6, h7, hF⟩ := hF
  obtain ⟨g8, e9, P⟩ := rX9_escapeOf (r := q6.1) (w' := q6.2) P h7
  refine GR.bind e9 ?_
  by_cases c10 : 0 ≤ q6.1
  · replace hF := ite_t c10 hF
    refine GR.t c10 ?_
    exact rX9_onTwo_93 hk29 h0 P hF
  replace hF := ite_f c10 hF
  refine GR.f c10 ?_
  exact rX9_onTwo_93 hk29 h0 P hF
def FX9_onTwo_53 (k29 : HS → Nat → Int32 → Int32 → Int32 → Int32 → Int32 → Option (Int32 × HS)) (w : HS) (v0 : Nat) (v1 : Int32) (v2 : Int32) (v3 : Int32) (v4 : Int32) (v5 : Int32) (s0 : Int32) (s1 : Nat) : Option (Int32 × HS) :=
  okb (hc w s1 == 9) (bnd (setI w s1 24 s0) fun w2 =>
  ((FX9_isPair w2 v0 v2).bind fun q6 =>
  (if q6.1 = 0 then (FX9_onTwo_71 (k29) q6.2 v0 v1 v2 v3 v4 v5 (-1 : Int32) v0) else
  (FX9_onTwo_71 (k29) q6.2 v0 v1 v2 v3 v4 v5 v5 v0))))
set_option maxHeartbeats 4000000 in
set_option maxRecDepth 100000 in
theorem rX9_onTwo_53 {ar : Nat → Nat → Nat} {c0 : Nat → Nat} {sz : Nat} {r : Int32} {w' : HS} {k29 : HS → Nat → Int32 → Int32 → Int32 → Int32 → Int32 → Option (Int32 × HS)} {j29 : PH → Nat → Int32 → Int32 → Int32 → Int32 → Int32 → Option (Int32 × PH)} (hk29 : ∀ (g : PH) (w : HS) (v0 : Nat) (v1 : Int32) (v2 : Int32) (v3 : Int32) (v4 : Int32) (v5 : Int32), c0 v0 = 9 → Rel ar c0 sz g w → k29 w v0 v1 v2 v3 v4 v5 = some (r, w') → GR ar c0 sz r w' (j29 g v0 v1 v2 v3 v4 v5)) {g : PH} {w : HS} {v0 : Nat} {v1 : Int32} {v2 : Int32} {v3 : Int32} {v4 : Int32} {v5 : Int32} {s0 : Int32} {s1 : Nat} (h0 : c0 v0 = 9) (P : Rel ar c0 sz g w) (hF : FX9_onTwo_53 k29 w v0 v1 v2 v3 v4 v5 s0 s1 = some (r, w')) : GR ar c0 sz r w' (fX9_onTwo_53 j29 g v0 v1 v2 v3 v4 v5 s0 s1) := by
  unfold FX9_onTwo_53 at hF
  unfold fX9_onTwo_53
  replace hF := okb_some hF
  obtain ⟨h1, hF⟩ := hF
  replace h1 := P.cls h1
  replace hF := bnd_e hF
  obtain ⟨w2, e3, hF⟩ := hF
  obtain ⟨g4, e5, P⟩ := P.putI (k := 24) h1 (by decide) (by decide) (by decide) e3
  refine GR.bind e5 ?_
  replace hF := ob_some hF
  obtain ⟨q6, h7, hF⟩ := hF
  obtain ⟨g8, e9, P⟩ := rX9_isPair (r := q6.1) (w' := q6.2) P h7
  refine GR.bind e9 ?_
  by_cases c10 : q6.1 = 0
  · replace hF := ite_t c10 hF
    refine GR.t c10 ?_
    exact rX9_onTwo_71 hk29 h0 P hF
  replace hF := ite_f c10 hF
  refine GR.f c10 ?_
  exact rX9_onTwo_71 hk29 h0 P hF
def FX9_onTwo_29  : Nat → HS → Nat → Int32 → Int32 → Int32 → Int32 → Int32 → Option (Int32 × HS)
  | 0, _, _, _, _, _, _, _ => none
  | n + 1, w, v0, v1, v2, v3, v4, v5 =>
  if (2 : Int32) ≤ v5 then (bnd (setI w v0 15 v3) fun w2 =>
  ((FX9_laysBack w2 v0).bind fun q6 =>
  (some (v4, q6.2)))) else
  ((FX9_isPair w v0 v2).bind fun q10 =>
  (if q10.1 = 0 then (FX9_onTwo_53 (FX9_onTwo_29 n) q10.2 v0 v1 v2 v3 v4 v5 v5 v0) else
  (FX9_onTwo_53 (FX9_onTwo_29 n) q10.2 v0 v1 v2 v3 v4 v5 ((1 : Int32) - v5) v0)))
set_option maxHeartbeats 4000000 in
set_option maxRecDepth 100000 in
theorem rX9_onTwo_29 {ar : Nat → Nat → Nat} {c0 : Nat → Nat} {sz : Nat} {r : Int32} {w' : HS}   : ∀ (n : Nat) (g : PH) (w : HS) (v0 : Nat) (v1 : Int32) (v2 : Int32) (v3 : Int32) (v4 : Int32) (v5 : Int32), c0 v0 = 9 → Rel ar c0 sz g w → FX9_onTwo_29  n w v0 v1 v2 v3 v4 v5 = some (r, w') → GR ar c0 sz r w' (fX9_onTwo_29  n g v0 v1 v2 v3 v4 v5) := by
  intro n
  induction n with
  | zero =>
    intro g w v0 v1 v2 v3 v4 v5 h0 P hF
    rw [FX9_onTwo_29] at hF
    cases hF
  | succ n ih =>
    intro g w v0 v1 v2 v3 v4 v5 h0 P hF
    rw [FX9_onTwo_29] at hF
    rw [fX9_onTwo_29]
    by_cases c1 : (2 : Int32) ≤ v5
    · replace hF := ite_t c1 hF
      refine GR.t c1 ?_
      replace hF := bnd_e hF
      obtain ⟨w2, e3, hF⟩ := hF
      obtain ⟨g4, e5, P⟩ := P.putI (k := 15) h0 (by decide) (by decide) (by decide) e3
      refine GR.bind e5 ?_
      replace hF := ob_some hF
      obtain ⟨q6, h7, hF⟩ := hF
      obtain ⟨g8, e9, P⟩ := rX9_laysBack (r := q6.1) (w' := q6.2) P h7
      refine GR.bind e9 ?_
      obtain ⟨f1, f2⟩ := finW hF
      subst f1
      subst f2
      exact GR.ret P
    replace hF := ite_f c1 hF
    refine GR.f c1 ?_
    replace hF := ob_some hF
    obtain ⟨q10, h11, hF⟩ := hF
    obtain ⟨g12, e13, P⟩ := rX9_isPair (r := q10.1) (w' := q10.2) P h11
    refine GR.bind e13 ?_
    by_cases c14 : q10.1 = 0
    · replace hF := ite_t c14 hF
      refine GR.t c14 ?_
      exact rX9_onTwo_53 ih h0 P hF
    replace hF := ite_f c14 hF
    refine GR.f c14 ?_
    exact rX9_onTwo_53 ih h0 P hF
def FX9_onTwo (w : HS) (a0 : Nat) (a1 : Int32) (a2 : Int32) : Option (Int32 × HS) :=
  okb (hc w a0 == 9) ((FX9_isMarch w a0 a1).bind fun q1 =>
  (if q1.1 = 0 then (some ((-1 : Int32), q1.2)) else
  ((FX9_isKind q1.2 a0 a2).bind fun q6 =>
  (if q6.1 = 0 then (some ((-1 : Int32), q6.2)) else
  ((FX9_beginsTwo q6.2 a0).bind fun q11 =>
  (FX9_onTwo_29 FUEL q11.2 a0 a1 a2 q11.1 (0 : Int32) (0 : Int32)))))))
set_option maxHeartbeats 4000000 in
set_option maxRecDepth 100000 in
theorem rX9_onTwo {ar : Nat → Nat → Nat} {c0 : Nat → Nat} {sz : Nat} {g : PH} {w w' : HS} {a0 : Nat} {a1 : Int32} {a2 : Int32} {r : Int32} (P : Rel ar c0 sz g w) (hF : FX9_onTwo w a0 a1 a2 = some (r, w')) : GR ar c0 sz r w' (fX9_onTwo g a0 a1 a2) := by
  unfold FX9_onTwo at hF
  unfold fX9_onTwo
  replace hF := okb_some hF
  obtain ⟨h0, hF⟩ := hF
  replace h0 := P.cls h0
  refine GR.ok (P.rO h0 (by decide)) ?_
  replace hF := ob_some hF
  obtain ⟨q1, h2, hF⟩ := hF
  obtain ⟨g3, e4, P⟩ := rX9_isMarch (r := q1.1) (w' := q1.2) P h2
  refine GR.bind e4 ?_
  by_cases c5 : q1.1 = 0
  · replace hF := ite_t c5 hF
    refine GR.t c5 ?_
    obtain ⟨f1, f2⟩ := finW hF
    subst f1
    subst f2
    exact GR.ret P
  replace hF := ite_f c5 hF
  refine GR.f c5 ?_
  replace hF := ob_some hF
  obtain ⟨q6, h7, hF⟩ := hF
  obtain ⟨g8, e9, P⟩ := rX9_isKind (r := q6.1) (w' := q6.2) P h7
  refine GR.bind e9 ?_
  by_cases c10 : q6.1 = 0
  · replace hF := ite_t c10 hF
    refine GR.t c10 ?_
    obtain ⟨f1, f2⟩ := finW hF
    subst f1
    subst f2
    exact GR.ret P
  replace hF := ite_f c10 hF
  refine GR.f c10 ?_
  replace hF := ob_some hF
  obtain ⟨q11, h12, hF⟩ := hF
  obtain ⟨g13, e14, P⟩ := rX9_beginsTwo (r := q11.1) (w' := q11.2) P h12
  refine GR.bind e14 ?_
  exact rX9_onTwo_29  _ _ _ _ _ _ _ _ _ h0 P hF
def FX9_covers_45 (k14 : HS → Nat → Int32 → Int32 → Int32 → Option (Int32 × HS)) (w : HS) (v0 : Nat) (v1 : Int32) (v3 : Int32) (s0 : Int32) (s1 : Int32) : Option (Int32 × HS) :=
  k14 w v0 v1 (s1 ||| s0) (v3 + (1 : Int32))
set_option maxHeartbeats 4000000 in
set_option maxRecDepth 100000 in
theorem rX9_covers_45 {ar : Nat → Nat → Nat} {c0 : Nat → Nat} {sz : Nat} {r : Int32} {w' : HS} {k14 : HS → Nat → Int32 → Int32 → Int32 → Option (Int32 × HS)} {j14 : PH → Nat → Int32 → Int32 → Int32 → Option (Int32 × PH)} (hk14 : ∀ (g : PH) (w : HS) (v0 : Nat) (v1 : Int32) (v2 : Int32) (v3 : Int32), c0 v0 = 9 → Rel ar c0 sz g w → k14 w v0 v1 v2 v3 = some (r, w') → GR ar c0 sz r w' (j14 g v0 v1 v2 v3)) {g : PH} {w : HS} {v0 : Nat} {v1 : Int32} {v3 : Int32} {s0 : Int32} {s1 : Int32} (h0 : c0 v0 = 9) (P : Rel ar c0 sz g w) (hF : FX9_covers_45 k14 w v0 v1 v3 s0 s1 = some (r, w')) : GR ar c0 sz r w' (fX9_covers_45 j14 g v0 v1 v3 s0 s1) := by
  unfold FX9_covers_45 at hF
  unfold fX9_covers_45
  exact hk14 _ _ _ _ _ _ h0 P hF
def FX9_covers_14  : Nat → HS → Nat → Int32 → Int32 → Int32 → Option (Int32 × HS)
  | 0, _, _, _, _, _ => none
  | n + 1, w, v0, v1, v2, v3 =>
  if (hi w v0 7) ≤ v3 then (some (v2, w)) else
  ((FX9_caught w v0 v1 v3 (0 : Int32)).bind fun q2 =>
  ((FX9_placements q2.2 v0 v3).bind fun q6 =>
  (if q2.1 = q6.1 then (FX9_covers_45 (FX9_covers_14 n) q6.2 v0 v1 v3 ((1 : Int32) <<< (v3 &&& 31)) v2) else
  (FX9_covers_45 (FX9_covers_14 n) q6.2 v0 v1 v3 (0 : Int32) v2))))
set_option maxHeartbeats 4000000 in
set_option maxRecDepth 100000 in
theorem rX9_covers_14 {ar : Nat → Nat → Nat} {c0 : Nat → Nat} {sz : Nat} {r : Int32} {w' : HS}   : ∀ (n : Nat) (g : PH) (w : HS) (v0 : Nat) (v1 : Int32) (v2 : Int32) (v3 : Int32), c0 v0 = 9 → Rel ar c0 sz g w → FX9_covers_14  n w v0 v1 v2 v3 = some (r, w') → GR ar c0 sz r w' (fX9_covers_14  n g v0 v1 v2 v3) := by
  intro n
  induction n with
  | zero =>
    intro g w v0 v1 v2 v3 h0 P hF
    rw [FX9_covers_14] at hF
    cases hF
  | succ n ih =>
    intro g w v0 v1 v2 v3 h0 P hF
    rw [FX9_covers_14] at hF
    rw [fX9_covers_14]
    refine GR.bind (P.rI (k := 7) h0 (by decide) (by decide) (by decide)) ?_
    by_cases c1 : (hi w v0 7) ≤ v3
    · replace hF := ite_t c1 hF
      refine GR.t c1 ?_
      obtain ⟨f1, f2⟩ := finW hF
      subst f1
      subst f2
      exact GR.ret P
    replace hF := ite_f c1 hF
    refine GR.f c1 ?_
    replace hF := ob_some hF
    obtain ⟨q2, h3, hF⟩ := hF
    obtain ⟨g4, e5, P⟩ := rX9_caught (r := q2.1) (w' := q2.2) P h3
    refine GR.bind e5 ?_
    replace hF := ob_some hF
    obtain ⟨q6, h7, hF⟩ := hF
    obtain ⟨g8, e9, P⟩ := rX9_placements (r := q6.1) (w' := q6.2) P h7
    refine GR.bind e9 ?_
    by_cases c10 : q2.1 = q6.1
    · replace hF := ite_t c10 hF
      refine GR.t c10 ?_
      exact rX9_covers_45 ih h0 P hF
    replace hF := ite_f c10 hF
    refine GR.f c10 ?_
    exact rX9_covers_45 ih h0 P hF
def FX9_covers (w : HS) (a0 : Nat) (a1 : Int32) : Option (Int32 × HS) :=
  okb (hc w a0 == 9) ((FX9_isMarch w a0 a1).bind fun q1 =>
  (if q1.1 = 0 then (some ((-1 : Int32), q1.2)) else
  (FX9_covers_14 FUEL q1.2 a0 a1 (0 : Int32) (0 : Int32))))
set_option maxHeartbeats 4000000 in
set_option maxRecDepth 100000 in
theorem rX9_covers {ar : Nat → Nat → Nat} {c0 : Nat → Nat} {sz : Nat} {g : PH} {w w' : HS} {a0 : Nat} {a1 : Int32} {r : Int32} (P : Rel ar c0 sz g w) (hF : FX9_covers w a0 a1 = some (r, w')) : GR ar c0 sz r w' (fX9_covers g a0 a1) := by
  unfold FX9_covers at hF
  unfold fX9_covers
  replace hF := okb_some hF
  obtain ⟨h0, hF⟩ := hF
  replace h0 := P.cls h0
  refine GR.ok (P.rO h0 (by decide)) ?_
  replace hF := ob_some hF
  obtain ⟨q1, h2, hF⟩ := hF
  obtain ⟨g3, e4, P⟩ := rX9_isMarch (r := q1.1) (w' := q1.2) P h2
  refine GR.bind e4 ?_
  by_cases c5 : q1.1 = 0
  · replace hF := ite_t c5 hF
    refine GR.t c5 ?_
    obtain ⟨f1, f2⟩ := finW hF
    subst f1
    subst f2
    exact GR.ret P
  replace hF := ite_f c5 hF
  refine GR.f c5 ?_
  exact rX9_covers_14  _ _ _ _ _ _ _ h0 P hF
def FX9_partOf (w : HS) (a0 : Nat) (a1 : Int32) (a2 : Int32) : Option (Int32 × HS) :=
  okb (hc w a0 == 9) (okb (inb (((4 : Int32) * a1) + (a2 / (20 : Int32))) 4804) (some ((((hj w a0 25 ((((4 : Int32) * a1) + (a2 / (20 : Int32))).toNatClampNeg)) >>> (((3 : Int32) * (a2 - a2 / (20 : Int32) * (20 : Int32))).toInt64 &&& 63)) &&& (7 : Int64)).toInt32, w)))
set_option maxHeartbeats 4000000 in
set_option maxRecDepth 100000 in
theorem rX9_partOf {ar : Nat → Nat → Nat} {c0 : Nat → Nat} {sz : Nat} {g : PH} {w w' : HS} {a0 : Nat} {a1 : Int32} {a2 : Int32} {r : Int32} (P : Rel ar c0 sz g w) (hF : FX9_partOf w a0 a1 a2 = some (r, w')) : GR ar c0 sz r w' (fX9_partOf g a0 a1 a2) := by
  unfold FX9_partOf at hF
  unfold fX9_partOf
  replace hF := okb_some hF
  obtain ⟨h0, hF⟩ := hF
  replace h0 := P.cls h0
  refine GR.ok (P.rO h0 (by decide)) ?_
  refine GR.bind (P.getRa (k := 25) h0 (by decide) (by decide) (by decide)) ?_
  replace hF := okb_some hF
  obtain ⟨h1, hF⟩ := hF
  refine GR.bind (P.dL (k := 25) (n := (((4 : Int32) * a1) + (a2 / (20 : Int32))).toNatClampNeg) h0 (by decide) (by decide) (by decide) h1 rfl) ?_
  obtain ⟨f1, f2⟩ := finW hF
  subst f1
  subst f2
  exact GR.ret P
def FX9_builds_27  (w : HS) (v0 : Nat) (v1 : Int32) (v2 : Int64) : Option (Unit × HS) :=
  okb (inb (v1 / (20 : Int32)) 4) (okb (inb (v1 / (20 : Int32)) 4) (bnd (setJ w v0 33 ((v1 / (20 : Int32)).toNatClampNeg) ((hj w v0 33 ((v1 / (20 : Int32)).toNatClampNeg)) ||| (v2 <<< (((3 : Int32) * (v1 - v1 / (20 : Int32) * (20 : Int32))).toInt64 &&& 63)))) fun w5 =>
  (some ((), w5))))
set_option maxHeartbeats 4000000 in
set_option maxRecDepth 100000 in
theorem rX9_builds_27 {ar : Nat → Nat → Nat} {c0 : Nat → Nat} {sz : Nat} {r : Unit} {w' : HS}   {g : PH} {w : HS} {v0 : Nat} {v1 : Int32} {v2 : Int64} (h0 : c0 v0 = 9) (P : Rel ar c0 sz g w) (hF : FX9_builds_27  w v0 v1 v2 = some (r, w')) : GR ar c0 sz r w' (fX9_builds_27  g v0 v1 v2) := by
  unfold FX9_builds_27 at hF
  unfold fX9_builds_27
  refine GR.bind (P.getRa (k := 33) h0 (by decide) (by decide) (by decide)) ?_
  replace hF := okb_some hF
  obtain ⟨h1, hF⟩ := hF
  refine GR.bind (P.dL (k := 33) (n := (v1 / (20 : Int32)).toNatClampNeg) h0 (by decide) (by decide) (by decide) h1 rfl) ?_
  replace hF := okb_some hF
  obtain ⟨h2, hF⟩ := hF
  replace hF := bnd_e hF
  obtain ⟨w5, e6, hF⟩ := hF
  obtain ⟨g3, e4, P⟩ := P.sL (k := 33) (j := (v1 / (20 : Int32))) h0 (by decide) (by decide) (by decide) h2 rfl e6
  refine GR.bind e4 ?_
  obtain ⟨f1, f2⟩ := finW hF
  subst f1
  subst f2
  exact GR.ret P
def FX9_builds_7  : Nat → HS → Nat → Int32 → Int64 → Int32 → Option (Unit × HS)
  | 0, _, _, _, _, _ => none
  | n + 1, w, v0, v1, v2, v4 =>
  if (4 : Int32) ≤ v4 then (FX9_builds_27 w v0 v1 v2) else
  (okb (inb v4 4) (bnd (setJ w v0 33 (v4.toNatClampNeg) (0 : Int64)) fun w5 =>
  (FX9_builds_7 n w5 v0 v1 v2 (v4 + (1 : Int32)))))
set_option maxHeartbeats 4000000 in
set_option maxRecDepth 100000 in
theorem rX9_builds_7 {ar : Nat → Nat → Nat} {c0 : Nat → Nat} {sz : Nat} {r : Unit} {w' : HS}   : ∀ (n : Nat) (g : PH) (w : HS) (v0 : Nat) (v1 : Int32) (v2 : Int64) (v4 : Int32), c0 v0 = 9 → Rel ar c0 sz g w → FX9_builds_7  n w v0 v1 v2 v4 = some (r, w') → GR ar c0 sz r w' (fX9_builds_7  n g v0 v1 v2 v4) := by
  intro n
  induction n with
  | zero =>
    intro g w v0 v1 v2 v4 h0 P hF
    rw [FX9_builds_7] at hF
    cases hF
  | succ n ih =>
    intro g w v0 v1 v2 v4 h0 P hF
    rw [FX9_builds_7] at hF
    rw [fX9_builds_7]
    by_cases c1 : (4 : Int32) ≤ v4
    · replace hF := ite_t c1 hF
      refine GR.t c1 ?_
      exact rX9_builds_27  h0 P hF
    replace hF := ite_f c1 hF
    refine GR.f c1 ?_
    refine GR.bind (P.getRa (k := 33) h0 (by decide) (by decide) (by decide)) ?_
    replace hF := okb_some hF
    obtain ⟨h2, hF⟩ := hF
    replace hF := bnd_e hF
    obtain ⟨w5, e6, hF⟩ := hF
    obtain ⟨g3, e4, P⟩ := P.sL (k := 33) (j := v4) h0 (by decide) (by decide) (by decide) h2 rfl e6
    refine GR.bind e4 ?_
    exact ih _ _ _ _ _ _ h0 P hF
def FX9_builds (w : HS) (a0 : Nat) (a1 : Int32) (a2 : Int64) : Option (Unit × HS) :=
  okb (hc w a0 == 9) (if a1 = 0 then (FX9_builds_7 FUEL w a0 a1 a2 (0 : Int32)) else
  (FX9_builds_27 w a0 a1 a2))
set_option maxHeartbeats 4000000 in
set_option maxRecDepth 100000 in
theorem rX9_builds {ar : Nat → Nat → Nat} {c0 : Nat → Nat} {sz : Nat} {g : PH} {w w' : HS} {a0 : Nat} {a1 : Int32} {a2 : Int64} {r : Unit} (P : Rel ar c0 sz g w) (hF : FX9_builds w a0 a1 a2 = some (r, w')) : GR ar c0 sz r w' (fX9_builds g a0 a1 a2) := by
  unfold FX9_builds at hF
  unfold fX9_builds
  replace hF := okb_some hF
  obtain ⟨h0, hF⟩ := hF
  replace h0 := P.cls h0
  refine GR.ok (P.rO h0 (by decide)) ?_
  by_cases c1 : a1 = 0
  · replace hF := ite_t c1 hF
    refine GR.t c1 ?_
    exact rX9_builds_7  _ _ _ _ _ _ _ h0 P hF
  replace hF := ite_f c1 hF
  refine GR.f c1 ?_
  exact rX9_builds_27  h0 P hF
def FX9_stateBuilt_90 (k2 : HS → Nat → Int32 → Option (Int32 × HS)) (w : HS) (v0 : Nat) (v1 : Int32) : Option (Int32 × HS) :=
  k2 w v0 (v1 + (1 : Int32))
set_option maxHeartbeats 4000000 in
set_option maxRecDepth 100000 in
theorem rX9_stateBuilt_90 {ar : Nat → Nat → Nat} {c0 : Nat → Nat} {sz : Nat} {r : Int32} {w' : HS} {k2 : HS → Nat → Int32 → Option (Int32 × HS)} {j2 : PH → Nat → Int32 → Option (Int32 × PH)} (hk2 : ∀ (g : PH) (w : HS) (v0 : Nat) (v1 : Int32), c0 v0 = 9 → Rel ar c0 sz g w → k2 w v0 v1 = some (r, w') → GR ar c0 sz r w' (j2 g v0 v1)) {g : PH} {w : HS} {v0 : Nat} {v1 : Int32} (h0 : c0 v0 = 9) (P : Rel ar c0 sz g w) (hF : FX9_stateBuilt_90 k2 w v0 v1 = some (r, w')) : GR ar c0 sz r w' (fX9_stateBuilt_90 j2 g v0 v1) := by
  unfold FX9_stateBuilt_90 at hF
  unfold fX9_stateBuilt_90
  exact hk2 _ _ _ _ h0 P hF
def FX9_stateBuilt_2  : Nat → HS → Nat → Int32 → Option (Int32 × HS)
  | 0, _, _, _ => none
  | n + 1, w, v0, v1 =>
  if (hi w v0 29) ≤ v1 then (some ((-1 : Int32), w)) else
  (okb (inb ((4 : Int32) * v1) 4804) (if (lg_cmp (hj w v0 25 (((4 : Int32) * v1).toNatClampNeg)) (hj w v0 33 (0))) = 0 then (okb (inb (((4 : Int32) * v1) + (1 : Int32)) 4804) (if (lg_cmp (hj w v0 25 ((((4 : Int32) * v1) + (1 : Int32)).toNatClampNeg)) (hj w v0 33 (1))) = 0 then (okb (inb (((4 : Int32) * v1) + (2 : Int32)) 4804) (if (lg_cmp (hj w v0 25 ((((4 : Int32) * v1) + (2 : Int32)).toNatClampNeg)) (hj w v0 33 (2))) = 0 then (okb (inb (((4 : Int32) * v1) + (3 : Int32)) 4804) (if (lg_cmp (hj w v0 25 ((((4 : Int32) * v1) + (3 : Int32)).toNatClampNeg)) (hj w v0 33 (3))) = 0 then (some (v1, w)) else
  (FX9_stateBuilt_90 (FX9_stateBuilt_2 n) w v0 v1))) else
  (FX9_stateBuilt_90 (FX9_stateBuilt_2 n) w v0 v1))) else
  (FX9_stateBuilt_90 (FX9_stateBuilt_2 n) w v0 v1))) else
  (FX9_stateBuilt_90 (FX9_stateBuilt_2 n) w v0 v1)))
set_option maxHeartbeats 4000000 in
set_option maxRecDepth 100000 in
theorem rX9_stateBuilt_2 {ar : Nat → Nat → Nat} {c0 : Nat → Nat} {sz : Nat} {r : Int32} {w' : HS}   : ∀ (n : Nat) (g : PH) (w : HS) (v0 : Nat) (v1 : Int32), c0 v0 = 9 → Rel ar c0 sz g w → FX9_stateBuilt_2  n w v0 v1 = some (r, w') → GR ar c0 sz r w' (fX9_stateBuilt_2  n g v0 v1) := by
  intro n
  induction n with
  | zero =>
    intro g w v0 v1 h0 P hF
    rw [FX9_stateBuilt_2] at hF
    cases hF
  | succ n ih =>
    intro g w v0 v1 h0 P hF
    rw [FX9_stateBuilt_2] at hF
    rw [fX9_stateBuilt_2]
    refine GR.bind (P.rI (k := 29) h0 (by decide) (by decide) (by decide)) ?_
    by_cases c1 : (hi w v0 29) ≤ v1
    · replace hF := ite_t c1 hF
      refine GR.t c1 ?_
      obtain ⟨f1, f2⟩ := finW hF
      subst f1
      subst f2
      exact GR.ret P
    replace hF := ite_f c1 hF
    refine GR.f c1 ?_
    refine GR.bind (P.getRa (k := 25) h0 (by decide) (by decide) (by decide)) ?_
    replace hF := okb_some hF
    obtain ⟨h2, hF⟩ := hF
    refine GR.bind (P.dL (k := 25) (n := ((4 : Int32) * v1).toNatClampNeg) h0 (by decide) (by decide) (by decide) h2 rfl) ?_
    refine GR.bind (P.getRa (k := 33) h0 (by decide) (by decide) (by decide)) ?_
    refine GR.bind (P.dL (k := 33) (n := 0) h0 (by decide) (by decide) (by decide) (by decide) (by decide)) ?_
    by_cases c3 : (lg_cmp (hj w v0 25 (((4 : Int32) * v1).toNatClampNeg)) (hj w v0 33 (0))) = 0
    · replace hF := ite_t c3 hF
      refine GR.t c3 ?_
      refine GR.bind (P.getRa (k := 25) h0 (by decide) (by decide) (by decide)) ?_
      replace hF := okb_some hF
      obtain ⟨h4, hF⟩ := hF
      refine GR.bind (P.dL (k := 25) (n := (((4 : Int32) * v1) + (1 : Int32)).toNatClampNeg) h0 (by decide) (by decide) (by decide) h4 rfl) ?_
      refine GR.bind (P.getRa (k := 33) h0 (by decide) (by decide) (by decide)) ?_
      refine GR.bind (P.dL (k := 33) (n := 1) h0 (by decide) (by decide) (by decide) (by decide) (by decide)) ?_
      by_cases c5 : (lg_cmp (hj w v0 25 ((((4 : Int32) * v1) + (1 : Int32)).toNatClampNeg)) (hj w v0 33 (1))) = 0
      · replace hF := ite_t c5 hF
        refine GR.t c5 ?_
        refine GR.bind (P.getRa (k := 25) h0 (by decide) (by decide) (by decide)) ?_
        replace hF := okb_some hF
        obtain ⟨h6, hF⟩ := hF
        refine GR.bind (P.dL (k := 25) (n := (((4 : Int32) * v1) + (2 : Int32)).toNatClampNeg) h0 (by decide) (by decide) (by decide) h6 rfl) ?_
        refine GR.bind (P.getRa (k := 33) h0 (by decide) (by decide) (by decide)) ?_
        refine GR.bind (P.dL (k := 33) (n := 2) h0 (by decide) (by decide) (by decide) (by decide) (by decide)) ?_
        by_cases c7 : (lg_cmp (hj w v0 25 ((((4 : Int32) * v1) + (2 : Int32)).toNatClampNeg)) (hj w v0 33 (2))) = 0
        · replace hF := ite_t c7 hF
          refine GR.t c7 ?_
          refine GR.bind (P.getRa (k := 25) h0 (by decide) (by decide) (by decide)) ?_
          replace hF := okb_some hF
          obtain ⟨h8, hF⟩ := hF
          refine GR.bind (P.dL (k := 25) (n := (((4 : Int32) * v1) + (3 : Int32)).toNatClampNeg) h0 (by decide) (by decide) (by decide) h8 rfl) ?_
          refine GR.bind (P.getRa (k := 33) h0 (by decide) (by decide) (by decide)) ?_
          refine GR.bind (P.dL (k := 33) (n := 3) h0 (by decide) (by decide) (by decide) (by decide) (by decide)) ?_
          by_cases c9 : (lg_cmp (hj w v0 25 ((((4 : Int32) * v1) + (3 : Int32)).toNatClampNeg)) (hj w v0 33 (3))) = 0
          · replace hF := ite_t c9 hF
            refine GR.t c9 ?_
            obtain ⟨f1, f2⟩ := finW hF
            subst f1
            subst f2
            exact GR.ret P
          replace hF := ite_f c9 hF
          refine GR.f c9 ?_
          exact rX9_stateBuilt_90 ih h0 P hF
        replace hF := ite_f c7 hF
        refine GR.f c7 ?_
        exact rX9_stateBuilt_90 ih h0 P hF
      replace hF := ite_f c5 hF
      refine GR.f c5 ?_
      exact rX9_stateBuilt_90 ih h0 P hF
    replace hF := ite_f c3 hF
    refine GR.f c3 ?_
    exact rX9_stateBuilt_90 ih h0 P hF
def FX9_stateBuilt (w : HS) (a0 : Nat) : Option (Int32 × HS) :=
  okb (hc w a0 == 9) (FX9_stateBuilt_2 FUEL w a0 (0 : Int32))
set_option maxHeartbeats 4000000 in
set_option maxRecDepth 100000 in
theorem rX9_stateBuilt {ar : Nat → Nat → Nat} {c0 : Nat → Nat} {sz : Nat} {g : PH} {w w' : HS} {a0 : Nat} {r : Int32} (P : Rel ar c0 sz g w) (hF : FX9_stateBuilt w a0 = some (r, w')) : GR ar c0 sz r w' (fX9_stateBuilt g a0) := by
  unfold FX9_stateBuilt at hF
  unfold fX9_stateBuilt
  replace hF := okb_some hF
  obtain ⟨h0, hF⟩ := hF
  replace h0 := P.cls h0
  refine GR.ok (P.rO h0 (by decide)) ?_
  exact rX9_stateBuilt_2  _ _ _ _ _ h0 P hF
def FX9_comes_3  : Nat → HS → Nat → Int32 → Int32 → Int32 → Int32 → Option (Unit × HS)
  | 0, _, _, _, _, _, _ => none
  | n + 1, w, v0, v1, v2, v3, v4 =>
  if (4 : Int32) ≤ v4 then (okb (inb (hi w v0 29) 1201) (bnd (setA w v0 26 (hi w v0 29).toNatClampNeg v1) fun w5 =>
  (okb (inb (hi w5 v0 29) 1201) (bnd (setA w5 v0 27 (hi w5 v0 29).toNatClampNeg v2) fun w10 =>
  (okb (inb (hi w10 v0 29) 1201) (bnd (setA w10 v0 28 (hi w10 v0 29).toNatClampNeg v3) fun w15 =>
  (bnd (setI w15 v0 29 ((hi w15 v0 29) + (1 : Int32))) fun w17 =>
  (some ((), w17))))))))) else
  (okb (inb v4 4) (okb (inb (((4 : Int32) * (hi w v0 29)) + v4) 4804) (bnd (setJ w v0 25 ((((4 : Int32) * (hi w v0 29)) + v4).toNatClampNeg) (hj w v0 33 (v4.toNatClampNeg))) fun w25 =>
  (FX9_comes_3 n w25 v0 v1 v2 v3 (v4 + (1 : Int32))))))
set_option maxHeartbeats 4000000 in
set_option maxRecDepth 100000 in
theorem rX9_comes_3 {ar : Nat → Nat → Nat} {c0 : Nat → Nat} {sz : Nat} {r : Unit} {w' : HS}   : ∀ (n : Nat) (g : PH) (w : HS) (v0 : Nat) (v1 : Int32) (v2 : Int32) (v3 : Int32) (v4 : Int32), c0 v0 = 9 → Rel ar c0 sz g w → FX9_comes_3  n w v0 v1 v2 v3 v4 = some (r, w') → GR ar c0 sz r w' (fX9_comes_3  n g v0 v1 v2 v3 v4) := by
  intro n
  induction n with
  | zero =>
    intro g w v0 v1 v2 v3 v4 h0 P hF
    rw [FX9_comes_3] at hF
    cases hF
  | succ n ih =>
    intro g w v0 v1 v2 v3 v4 h0 P hF
    rw [FX9_comes_3] at hF
    rw [fX9_comes_3]
    by_cases c1 : (4 : Int32) ≤ v4
    · replace hF := ite_t c1 hF
      refine GR.t c1 ?_
      refine GR.bind (P.getRa (k := 26) h0 (by decide) (by decide) (by decide)) ?_
      refine GR.bind (P.rI (k := 29) h0 (by decide) (by decide) (by decide)) ?_
      replace hF := okb_some hF
      obtain ⟨h2, hF⟩ := hF
      replace hF := bnd_e hF
      obtain ⟨w5, e6, hF⟩ := hF
      obtain ⟨g3, e4, P⟩ := P.sI (k := 26) (kd := 0) (j := (hi w v0 29)) h0 (by decide) (by decide) (by decide) (by decide) h2 rfl e6
      refine GR.bind e4 ?_
      refine GR.bind (P.getRa (k := 27) h0 (by decide) (by decide) (by decide)) ?_
      refine GR.bind (P.rI (k := 29) h0 (by decide) (by decide) (by decide)) ?_
      replace hF := okb_some hF
      obtain ⟨h7, hF⟩ := hF
      replace hF := bnd_e hF
      obtain ⟨w10, e11, hF⟩ := hF
      obtain ⟨g8, e9, P⟩ := P.sI (k := 27) (kd := 0) (j := (hi w5 v0 29)) h0 (by decide) (by decide) (by decide) (by decide) h7 rfl e11
      refine GR.bind e9 ?_
      refine GR.bind (P.getRa (k := 28) h0 (by decide) (by decide) (by decide)) ?_
      refine GR.bind (P.rI (k := 29) h0 (by decide) (by decide) (by decide)) ?_
      replace hF := okb_some hF
      obtain ⟨h12, hF⟩ := hF
      replace hF := bnd_e hF
      obtain ⟨w15, e16, hF⟩ := hF
      obtain ⟨g13, e14, P⟩ := P.sI (k := 28) (kd := 0) (j := (hi w10 v0 29)) h0 (by decide) (by decide) (by decide) (by decide) h12 rfl e16
      refine GR.bind e14 ?_
      refine GR.bind (P.rI (k := 29) h0 (by decide) (by decide) (by decide)) ?_
      replace hF := bnd_e hF
      obtain ⟨w17, e18, hF⟩ := hF
      obtain ⟨g19, e20, P⟩ := P.putI (k := 29) h0 (by decide) (by decide) (by decide) e18
      refine GR.bind e20 ?_
      obtain ⟨f1, f2⟩ := finW hF
      subst f1
      subst f2
      exact GR.ret P
    replace hF := ite_f c1 hF
    refine GR.f c1 ?_
    refine GR.bind (P.getRa (k := 25) h0 (by decide) (by decide) (by decide)) ?_
    refine GR.bind (P.rI (k := 29) h0 (by decide) (by decide) (by decide)) ?_
    refine GR.bind (P.getRa (k := 33) h0 (by decide) (by decide) (by decide)) ?_
    replace hF := okb_some hF
    obtain ⟨h21, hF⟩ := hF
    refine GR.bind (P.dL (k := 33) (n := v4.toNatClampNeg) h0 (by decide) (by decide) (by decide) h21 rfl) ?_
    replace hF := okb_some hF
    obtain ⟨h22, hF⟩ := hF
    replace hF := bnd_e hF
    obtain ⟨w25, e26, hF⟩ := hF
    obtain ⟨g23, e24, P⟩ := P.sL (k := 25) (j := (((4 : Int32) * (hi w v0 29)) + v4)) h0 (by decide) (by decide) (by decide) h22 rfl e26
    refine GR.bind e24 ?_
    exact ih _ _ _ _ _ _ _ h0 P hF
def FX9_comes (w : HS) (a0 : Nat) (a1 : Int32) (a2 : Int32) (a3 : Int32) : Option (Unit × HS) :=
  okb (hc w a0 == 9) (FX9_comes_3 FUEL w a0 a1 a2 a3 (0 : Int32))
set_option maxHeartbeats 4000000 in
set_option maxRecDepth 100000 in
theorem rX9_comes {ar : Nat → Nat → Nat} {c0 : Nat → Nat} {sz : Nat} {g : PH} {w w' : HS} {a0 : Nat} {a1 : Int32} {a2 : Int32} {a3 : Int32} {r : Unit} (P : Rel ar c0 sz g w) (hF : FX9_comes w a0 a1 a2 a3 = some (r, w')) : GR ar c0 sz r w' (fX9_comes g a0 a1 a2 a3) := by
  unfold FX9_comes at hF
  unfold fX9_comes
  replace hF := okb_some hF
  obtain ⟨h0, hF⟩ := hF
  replace h0 := P.cls h0
  refine GR.ok (P.rO h0 (by decide)) ?_
  exact rX9_comes_3  _ _ _ _ _ _ _ _ h0 P hF
def FX9_isAllFailed_2  : Nat → HS → Nat → Int32 → Option (Int32 × HS)
  | 0, _, _, _ => none
  | n + 1, w, v0, v1 =>
  if (hi w v0 30) < v1 then (some ((1 : Int32), w)) else
  (okb (inb (v1 / (20 : Int32)) 4) (if (lg_cmp (((hj w v0 33 ((v1 / (20 : Int32)).toNatClampNeg)) >>> (((3 : Int32) * (v1 - v1 / (20 : Int32) * (20 : Int32))).toInt64 &&& 63)) &&& (7 : Int64)) (4 : Int64)) = 0 then (FX9_isAllFailed_2 n w v0 (v1 + (1 : Int32))) else
  (some ((0 : Int32), w))))
set_option maxHeartbeats 4000000 in
set_option maxRecDepth 100000 in
theorem rX9_isAllFailed_2 {ar : Nat → Nat → Nat} {c0 : Nat → Nat} {sz : Nat} {r : Int32} {w' : HS}   : ∀ (n : Nat) (g : PH) (w : HS) (v0 : Nat) (v1 : Int32), c0 v0 = 9 → Rel ar c0 sz g w → FX9_isAllFailed_2  n w v0 v1 = some (r, w') → GR ar c0 sz r w' (fX9_isAllFailed_2  n g v0 v1) := by
  intro n
  induction n with
  | zero =>
    intro g w v0 v1 h0 P hF
    rw [FX9_isAllFailed_2] at hF
    cases hF
  | succ n ih =>
    intro g w v0 v1 h0 P hF
    rw [FX9_isAllFailed_2] at hF
    rw [fX9_isAllFailed_2]
    refine GR.bind (P.rI (k := 30) h0 (by decide) (by decide) (by decide)) ?_
    by_cases c1 : (hi w v0 30) < v1
    · replace hF := ite_t c1 hF
      refine GR.t c1 ?_
      obtain ⟨f1, f2⟩ := finW hF
      subst f1
      subst f2
      exact GR.ret P
    replace hF := ite_f c1 hF
    refine GR.f c1 ?_
    refine GR.bind (P.getRa (k := 33) h0 (by decide) (by decide) (by decide)) ?_
    replace hF := okb_some hF
    obtain ⟨h2, hF⟩ := hF
    refine GR.bind (P.dL (k := 33) (n := (v1 / (20 : Int32)).toNatClampNeg) h0 (by decide) (by decide) (by decide) h2 rfl) ?_
    by_cases c3 : (lg_cmp (((hj w v0 33 ((v1 / (20 : Int32)).toNatClampNeg)) >>> (((3 : Int32) * (v1 - v1 / (20 : Int32) * (20 : Int32))).toInt64 &&& 63)) &&& (7 : Int64)) (4 : Int64)) = 0
    · replace hF := ite_t c3 hF
      refine GR.t c3 ?_
      exact ih _ _ _ _ h0 P hF
    replace hF := ite_f c3 hF
    refine GR.f c3 ?_
    obtain ⟨f1, f2⟩ := finW hF
    subst f1
    subst f2
    exact GR.ret P
def FX9_isAllFailed (w : HS) (a0 : Nat) : Option (Int32 × HS) :=
  okb (hc w a0 == 9) (FX9_isAllFailed_2 FUEL w a0 (1 : Int32))
set_option maxHeartbeats 4000000 in
set_option maxRecDepth 100000 in
theorem rX9_isAllFailed {ar : Nat → Nat → Nat} {c0 : Nat → Nat} {sz : Nat} {g : PH} {w w' : HS} {a0 : Nat} {r : Int32} (P : Rel ar c0 sz g w) (hF : FX9_isAllFailed w a0 = some (r, w')) : GR ar c0 sz r w' (fX9_isAllFailed g a0) := by
  unfold FX9_isAllFailed at hF
  unfold fX9_isAllFailed
  replace hF := okb_some hF
  obtain ⟨h0, hF⟩ := hF
  replace h0 := P.cls h0
  refine GR.ok (P.rO h0 (by decide)) ?_
  exact rX9_isAllFailed_2  _ _ _ _ _ h0 P hF
def FX9_triesMachine_53  (w : HS) (v2 : Int32) (s0 : Int32) (s1 : Int32) (s2 : Int32) (s3 : Nat) : Option (Unit × HS) :=
  (FX9_tries w s3 s2 s1 s0 v2).bind fun q1 =>
  (some ((), q1.2))
set_option maxHeartbeats 4000000 in
set_option maxRecDepth 100000 in
theorem rX9_triesMachine_53 {ar : Nat → Nat → Nat} {c0 : Nat → Nat} {sz : Nat} {r : Unit} {w' : HS}   {g : PH} {w : HS} {v2 : Int32} {s0 : Int32} {s1 : Int32} {s2 : Int32} {s3 : Nat} (P : Rel ar c0 sz g w) (hF : FX9_triesMachine_53  w v2 s0 s1 s2 s3 = some (r, w')) : GR ar c0 sz r w' (fX9_triesMachine_53  g v2 s0 s1 s2 s3) := by
  unfold FX9_triesMachine_53 at hF
  unfold fX9_triesMachine_53
  replace hF := ob_some hF
  obtain ⟨q1, h2, hF⟩ := hF
  obtain ⟨g3, e4, P⟩ := rX9_tries (r := q1.1) (w' := q1.2) P h2
  refine GR.bind e4 ?_
  obtain ⟨f1, f2⟩ := finW hF
  subst f1
  subst f2
  exact GR.ret P
def FX9_triesMachine_32  (w : HS) (v0 : Nat) (v1 : Int32) (v2 : Int32) (v3 : Int32) (s0 : Int32) (s1 : Int32) (s2 : Nat) : Option (Unit × HS) :=
  if v3 = 0 then (okb (inb v1 64) (FX9_triesMachine_53 w v2 (ha w v0 32 v1.toNatClampNeg) s0 s1 s2)) else
  (okb (inb v1 64) (FX9_triesMachine_53 w v2 ((1 : Int32) - (ha w v0 32 v1.toNatClampNeg)) s0 s1 s2))
set_option maxHeartbeats 4000000 in
set_option maxRecDepth 100000 in
theorem rX9_triesMachine_32 {ar : Nat → Nat → Nat} {c0 : Nat → Nat} {sz : Nat} {r : Unit} {w' : HS}   {g : PH} {w : HS} {v0 : Nat} {v1 : Int32} {v2 : Int32} {v3 : Int32} {s0 : Int32} {s1 : Int32} {s2 : Nat} (h0 : c0 v0 = 9) (P : Rel ar c0 sz g w) (hF : FX9_triesMachine_32  w v0 v1 v2 v3 s0 s1 s2 = some (r, w')) : GR ar c0 sz r w' (fX9_triesMachine_32  g v0 v1 v2 v3 s0 s1 s2) := by
  unfold FX9_triesMachine_32 at hF
  unfold fX9_triesMachine_32
  by_cases c1 : v3 = 0
  · replace hF := ite_t c1 hF
    refine GR.t c1 ?_
    refine GR.bind (P.getRa (k := 32) h0 (by decide) (by decide) (by decide)) ?_
    replace hF := okb_some hF
    obtain ⟨h2, hF⟩ := hF
    refine GR.bind (P.dI (k := 32) (n := v1.toNatClampNeg) h0 (by decide) (by decide) (by decide) (by decide) h2 rfl) ?_
    exact rX9_triesMachine_53  P hF
  replace hF := ite_f c1 hF
  refine GR.f c1 ?_
  refine GR.bind (P.getRa (k := 32) h0 (by decide) (by decide) (by decide)) ?_
  replace hF := okb_some hF
  obtain ⟨h3, hF⟩ := hF
  refine GR.bind (P.dI (k := 32) (n := v1.toNatClampNeg) h0 (by decide) (by decide) (by decide) (by decide) h3 rfl) ?_
  exact rX9_triesMachine_53  P hF
def FX9_triesMachine (w : HS) (a0 : Nat) (a1 : Int32) (a2 : Int32) : Option (Unit × HS) :=
  okb (hc w a0 == 9) (okb (inb a1 64) ((FX9_isPair w a0 (ha w a0 31 a1.toNatClampNeg)).bind fun q2 =>
  (okb (inb a1 64) (if q2.1 = 0 then (FX9_triesMachine_32 q2.2 a0 a1 a2 q2.1 (-1 : Int32) (ha q2.2 a0 31 a1.toNatClampNeg) a0) else
  (okb (inb a1 64) (FX9_triesMachine_32 q2.2 a0 a1 a2 q2.1 (ha q2.2 a0 32 a1.toNatClampNeg) (ha q2.2 a0 31 a1.toNatClampNeg) a0))))))
set_option maxHeartbeats 4000000 in
set_option maxRecDepth 100000 in
theorem rX9_triesMachine {ar : Nat → Nat → Nat} {c0 : Nat → Nat} {sz : Nat} {g : PH} {w w' : HS} {a0 : Nat} {a1 : Int32} {a2 : Int32} {r : Unit} (P : Rel ar c0 sz g w) (hF : FX9_triesMachine w a0 a1 a2 = some (r, w')) : GR ar c0 sz r w' (fX9_triesMachine g a0 a1 a2) := by
  unfold FX9_triesMachine at hF
  unfold fX9_triesMachine
  replace hF := okb_some hF
  obtain ⟨h0, hF⟩ := hF
  replace h0 := P.cls h0
  refine GR.ok (P.rO h0 (by decide)) ?_
  refine GR.bind (P.getRa (k := 31) h0 (by decide) (by decide) (by decide)) ?_
  replace hF := okb_some hF
  obtain ⟨h1, hF⟩ := hF
  refine GR.bind (P.dI (k := 31) (n := a1.toNatClampNeg) h0 (by decide) (by decide) (by decide) (by decide) h1 rfl) ?_
  replace hF := ob_some hF
  obtain ⟨q2, h3, hF⟩ := hF
  obtain ⟨g4, e5, P⟩ := rX9_isPair (r := q2.1) (w' := q2.2) P h3
  refine GR.bind e5 ?_
  refine GR.bind (P.getRa (k := 31) h0 (by decide) (by decide) (by decide)) ?_
  replace hF := okb_some hF
  obtain ⟨h6, hF⟩ := hF
  refine GR.bind (P.dI (k := 31) (n := a1.toNatClampNeg) h0 (by decide) (by decide) (by decide) (by decide) h6 rfl) ?_
  by_cases c7 : q2.1 = 0
  · replace hF := ite_t c7 hF
    refine GR.t c7 ?_
    exact rX9_triesMachine_32  h0 P hF
  replace hF := ite_f c7 hF
  refine GR.f c7 ?_
  refine GR.bind (P.getRa (k := 32) h0 (by decide) (by decide) (by decide)) ?_
  replace hF := okb_some hF
  obtain ⟨h8, hF⟩ := hF
  refine GR.bind (P.dI (k := 32) (n := a1.toNatClampNeg) h0 (by decide) (by decide) (by decide) (by decide) h8 rfl) ?_
  exact rX9_triesMachine_32  h0 P hF
def FX9_laysMachines_33 (k7 : HS → Nat → Int32 → Int32 → Option (Unit × HS)) (k17 : HS → Nat → Int32 → Int32 → Int32 → Option (Unit × HS)) : Nat → HS → Nat → Int32 → Int32 → Int32 → Int32 → Option (Unit × HS)
  | 0, _, _, _, _, _, _ => none
  | n + 1, w, v0, v1, v2, v3, v4 =>
  if (4 : Int32) ≤ v4 then (k17 w v0 v1 v2 (v3 + (1 : Int32))) else
  (okb (inb (hi w v0 30) 64) (bnd (setA w v0 31 (hi w v0 30).toNatClampNeg v2) fun w5 =>
  (okb (inb (hi w5 v0 30) 64) (bnd (setA w5 v0 32 (hi w5 v0 30).toNatClampNeg v3) fun w10 =>
  (bnd (setI w10 v0 30 ((hi w10 v0 30) + (1 : Int32))) fun w12 =>
  (FX9_laysMachines_33 k7 k17 n w12 v0 v1 v2 v3 (v4 + (1 : Int32))))))))
set_option maxHeartbeats 4000000 in
set_option maxRecDepth 100000 in
theorem rX9_laysMachines_33 {ar : Nat → Nat → Nat} {c0 : Nat → Nat} {sz : Nat} {r : Unit} {w' : HS} {k7 : HS → Nat → Int32 → Int32 → Option (Unit × HS)} {j7 : PH → Nat → Int32 → Int32 → Option (Unit × PH)} {k17 : HS → Nat → Int32 → Int32 → Int32 → Option (Unit × HS)} {j17 : PH → Nat → Int32 → Int32 → Int32 → Option (Unit × PH)} (hk7 : ∀ (g : PH) (w : HS) (v0 : Nat) (v1 : Int32) (v2 : Int32), c0 v0 = 9 → Rel ar c0 sz g w → k7 w v0 v1 v2 = some (r, w') → GR ar c0 sz r w' (j7 g v0 v1 v2)) (hk17 : ∀ (g : PH) (w : HS) (v0 : Nat) (v1 : Int32) (v2 : Int32) (v3 : Int32), c0 v0 = 9 → Rel ar c0 sz g w → k17 w v0 v1 v2 v3 = some (r, w') → GR ar c0 sz r w' (j17 g v0 v1 v2 v3)) : ∀ (n : Nat) (g : PH) (w : HS) (v0 : Nat) (v1 : Int32) (v2 : Int32) (v3 : Int32) (v4 : Int32), c0 v0 = 9 → Rel ar c0 sz g w → FX9_laysMachines_33 k7 k17 n w v0 v1 v2 v3 v4 = some (r, w') → GR ar c0 sz r w' (fX9_laysMachines_33 j7 j17 n g v0 v1 v2 v3 v4) := by
  intro n
  induction n with
  | zero =>
    intro g w v0 v1 v2 v3 v4 h0 P hF
    rw [FX9_laysMachines_33] at hF
    cases hF
  | succ n ih =>
    intro g w v0 v1 v2 v3 v4 h0 P hF
    rw [FX9_laysMachines_33] at hF
    rw [fX9_laysMachines_33]
    by_cases c1 : (4 : Int32) ≤ v4
    · replace hF := ite_t c1 hF
      refine GR.t c1 ?_
      exact hk17 _ _ _ _ _ _ h0 P hF
    replace hF := ite_f c1 hF
    refine GR.f c1 ?_
    refine GR.bind (P.getRa (k := 31) h0 (by decide) (by decide) (by decide)) ?_
    refine GR.bind (P.rI (k := 30) h0 (by decide) (by decide) (by decide)) ?_
    replace hF := okb_some hF
    obtain ⟨h2, hF⟩ := hF
    replace hF := bnd_e hF
    obtain ⟨w5, e6, hF⟩ := hF
    obtain ⟨g3, e4, P⟩ := P.sI (k := 31) (kd := 0) (j := (hi w v0 30)) h0 (by decide) (by decide) (by decide) (by decide) h2 rfl e6
    refine GR.bind e4 ?_
    refine GR.bind (P.getRa (k := 32) h0 (by decide) (by decide) (by decide)) ?_
    refine GR.bind (P.rI (k := 30) h0 (by decide) (by decide) (by decide)) ?_
    replace hF := okb_some hF
    obtain ⟨h7, hF⟩ := hF
    replace hF := bnd_e hF
    obtain ⟨w10, e11, hF⟩ := hF
    obtain ⟨g8, e9, P⟩ := P.sI (k := 32) (kd := 0) (j := (hi w5 v0 30)) h0 (by decide) (by decide) (by decide) (by decide) h7 rfl e11
    refine GR.bind e9 ?_
    refine GR.bind (P.rI (k := 30) h0 (by decide) (by decide) (by decide)) ?_
    replace hF := bnd_e hF
    obtain ⟨w12, e13, hF⟩ := hF
    obtain ⟨g14, e15, P⟩ := P.putI (k := 30) h0 (by decide) (by decide) (by decide) e13
    refine GR.bind e15 ?_
    exact ih _ _ _ _ _ _ _ h0 P hF
def FX9_laysMachines_81 (k7 : HS → Nat → Int32 → Int32 → Option (Unit × HS)) (w : HS) (v0 : Nat) (v1 : Int32) (v2 : Int32) : Option (Unit × HS) :=
  k7 w v0 v1 (v2 + (1 : Int32))
set_option maxHeartbeats 4000000 in
set_option maxRecDepth 100000 in
theorem rX9_laysMachines_81 {ar : Nat → Nat → Nat} {c0 : Nat → Nat} {sz : Nat} {r : Unit} {w' : HS} {k7 : HS → Nat → Int32 → Int32 → Option (Unit × HS)} {j7 : PH → Nat → Int32 → Int32 → Option (Unit × PH)} (hk7 : ∀ (g : PH) (w : HS) (v0 : Nat) (v1 : Int32) (v2 : Int32), c0 v0 = 9 → Rel ar c0 sz g w → k7 w v0 v1 v2 = some (r, w') → GR ar c0 sz r w' (j7 g v0 v1 v2)) {g : PH} {w : HS} {v0 : Nat} {v1 : Int32} {v2 : Int32} (h0 : c0 v0 = 9) (P : Rel ar c0 sz g w) (hF : FX9_laysMachines_81 k7 w v0 v1 v2 = some (r, w')) : GR ar c0 sz r w' (fX9_laysMachines_81 j7 g v0 v1 v2) := by
  unfold FX9_laysMachines_81 at hF
  unfold fX9_laysMachines_81
  exact hk7 _ _ _ _ _ h0 P hF
def FX9_laysMachines_17 (k7 : HS → Nat → Int32 → Int32 → Option (Unit × HS)) : Nat → HS → Nat → Int32 → Int32 → Int32 → Option (Unit × HS)
  | 0, _, _, _, _, _ => none
  | n + 1, w, v0, v1, v2, v3 =>
  if (2 : Int32) ≤ v3 then (FX9_laysMachines_81 (k7) w v0 v1 v2) else
  ((FX9_has w v1 v2).bind fun q2 =>
  (if q2.1 = 0 then (FX9_laysMachines_81 (k7) q2.2 v0 v1 v2) else
  (FX9_laysMachines_33 (k7) (FX9_laysMachines_17 k7 n) FUEL q2.2 v0 v1 v2 v3 (0 : Int32))))
set_option maxHeartbeats 4000000 in
set_option maxRecDepth 100000 in
theorem rX9_laysMachines_17 {ar : Nat → Nat → Nat} {c0 : Nat → Nat} {sz : Nat} {r : Unit} {w' : HS} {k7 : HS → Nat → Int32 → Int32 → Option (Unit × HS)} {j7 : PH → Nat → Int32 → Int32 → Option (Unit × PH)} (hk7 : ∀ (g : PH) (w : HS) (v0 : Nat) (v1 : Int32) (v2 : Int32), c0 v0 = 9 → Rel ar c0 sz g w → k7 w v0 v1 v2 = some (r, w') → GR ar c0 sz r w' (j7 g v0 v1 v2)) : ∀ (n : Nat) (g : PH) (w : HS) (v0 : Nat) (v1 : Int32) (v2 : Int32) (v3 : Int32), c0 v0 = 9 → Rel ar c0 sz g w → FX9_laysMachines_17 k7 n w v0 v1 v2 v3 = some (r, w') → GR ar c0 sz r w' (fX9_laysMachines_17 j7 n g v0 v1 v2 v3) := by
  intro n
  induction n with
  | zero =>
    intro g w v0 v1 v2 v3 h0 P hF
    rw [FX9_laysMachines_17] at hF
    cases hF
  | succ n ih =>
    intro g w v0 v1 v2 v3 h0 P hF
    rw [FX9_laysMachines_17] at hF
    rw [fX9_laysMachines_17]
    by_cases c1 : (2 : Int32) ≤ v3
    · replace hF := ite_t c1 hF
      refine GR.t c1 ?_
      exact rX9_laysMachines_81 hk7 h0 P hF
    replace hF := ite_f c1 hF
    refine GR.f c1 ?_
    replace hF := ob_some hF
    obtain ⟨q2, h3, hF⟩ := hF
    obtain ⟨g4, e5, P⟩ := rX9_has (r := q2.1) (w' := q2.2) P h3
    refine GR.bind e5 ?_
    by_cases c6 : q2.1 = 0
    · replace hF := ite_t c6 hF
      refine GR.t c6 ?_
      exact rX9_laysMachines_81 hk7 h0 P hF
    replace hF := ite_f c6 hF
    refine GR.f c6 ?_
    exact rX9_laysMachines_33 hk7 ih _ _ _ _ _ _ _ _ h0 P hF
def FX9_laysMachines_97  : Nat → HS → Nat → Int32 → Option (Unit × HS)
  | 0, _, _, _ => none
  | n + 1, w, v0, v2 =>
  if (hi w v0 30) ≤ v2 then (bnd (setI w v0 29 (0 : Int32)) fun w2 =>
  ((FX9_comes w2 v0 (0 : Int32) (-1 : Int32) (0 : Int32)).bind fun q6 =>
  (some ((), q6.2)))) else
  ((FX9_triesMachine w v0 v2 (v2 - v2 / (4 : Int32) * (4 : Int32))).bind fun q10 =>
  ((FX9_builds q10.2 v0 (v2 + (1 : Int32)) (ha q10.2 v0 16 0).toInt64).bind fun q14 =>
  (FX9_laysMachines_97 n q14.2 v0 (v2 + (1 : Int32)))))
set_option maxHeartbeats 4000000 in
set_option maxRecDepth 100000 in
theorem rX9_laysMachines_97 {ar : Nat → Nat → Nat} {c0 : Nat → Nat} {sz : Nat} {r : Unit} {w' : HS}   : ∀ (n : Nat) (g : PH) (w : HS) (v0 : Nat) (v2 : Int32), c0 v0 = 9 → Rel ar c0 sz g w → FX9_laysMachines_97  n w v0 v2 = some (r, w') → GR ar c0 sz r w' (fX9_laysMachines_97  n g v0 v2) := by
  intro n
  induction n with
  | zero =>
    intro g w v0 v2 h0 P hF
    rw [FX9_laysMachines_97] at hF
    cases hF
  | succ n ih =>
    intro g w v0 v2 h0 P hF
    rw [FX9_laysMachines_97] at hF
    rw [fX9_laysMachines_97]
    refine GR.bind (P.rI (k := 30) h0 (by decide) (by decide) (by decide)) ?_
    by_cases c1 : (hi w v0 30) ≤ v2
    · replace hF := ite_t c1 hF
      refine GR.t c1 ?_
      replace hF := bnd_e hF
      obtain ⟨w2, e3, hF⟩ := hF
      obtain ⟨g4, e5, P⟩ := P.putI (k := 29) h0 (by decide) (by decide) (by decide) e3
      refine GR.bind e5 ?_
      replace hF := ob_some hF
      obtain ⟨q6, h7, hF⟩ := hF
      obtain ⟨g8, e9, P⟩ := rX9_comes (r := q6.1) (w' := q6.2) P h7
      refine GR.bind e9 ?_
      obtain ⟨f1, f2⟩ := finW hF
      subst f1
      subst f2
      exact GR.ret P
    replace hF := ite_f c1 hF
    refine GR.f c1 ?_
    replace hF := ob_some hF
    obtain ⟨q10, h11, hF⟩ := hF
    obtain ⟨g12, e13, P⟩ := rX9_triesMachine (r := q10.1) (w' := q10.2) P h11
    refine GR.bind e13 ?_
    refine GR.bind (P.getRa (k := 16) h0 (by decide) (by decide) (by decide)) ?_
    refine GR.bind (P.dI (k := 16) (n := 0) h0 (by decide) (by decide) (by decide) (by decide) (by decide) (by decide)) ?_
    replace hF := ob_some hF
    obtain ⟨q14, h15, hF⟩ := hF
    obtain ⟨g16, e17, P⟩ := rX9_builds (r := q14.1) (w' := q14.2) P h15
    refine GR.bind e17 ?_
    exact ih _ _ _ _ h0 P hF
def FX9_laysMachines_7  : Nat → HS → Nat → Int32 → Int32 → Option (Unit × HS)
  | 0, _, _, _, _ => none
  | n + 1, w, v0, v1, v2 =>
  if (hi w v0 7) ≤ v2 then ((FX9_builds w v0 (0 : Int32) (2 : Int64)).bind fun q2 =>
  (FX9_laysMachines_97 FUEL q2.2 v0 (0 : Int32))) else
  (FX9_laysMachines_17 (FX9_laysMachines_7 n) FUEL w v0 v1 v2 (0 : Int32))
set_option maxHeartbeats 4000000 in
set_option maxRecDepth 100000 in
theorem rX9_laysMachines_7 {ar : Nat → Nat → Nat} {c0 : Nat → Nat} {sz : Nat} {r : Unit} {w' : HS}   : ∀ (n : Nat) (g : PH) (w : HS) (v0 : Nat) (v1 : Int32) (v2 : Int32), c0 v0 = 9 → Rel ar c0 sz g w → FX9_laysMachines_7  n w v0 v1 v2 = some (r, w') → GR ar c0 sz r w' (fX9_laysMachines_7  n g v0 v1 v2) := by
  intro n
  induction n with
  | zero =>
    intro g w v0 v1 v2 h0 P hF
    rw [FX9_laysMachines_7] at hF
    cases hF
  | succ n ih =>
    intro g w v0 v1 v2 h0 P hF
    rw [FX9_laysMachines_7] at hF
    rw [fX9_laysMachines_7]
    refine GR.bind (P.rI (k := 7) h0 (by decide) (by decide) (by decide)) ?_
    by_cases c1 : (hi w v0 7) ≤ v2
    · replace hF := ite_t c1 hF
      refine GR.t c1 ?_
      replace hF := ob_some hF
      obtain ⟨q2, h3, hF⟩ := hF
      obtain ⟨g4, e5, P⟩ := rX9_builds (r := q2.1) (w' := q2.2) P h3
      refine GR.bind e5 ?_
      exact rX9_laysMachines_97  _ _ _ _ _ h0 P hF
    replace hF := ite_f c1 hF
    refine GR.f c1 ?_
    exact rX9_laysMachines_17 ih _ _ _ _ _ _ _ h0 P hF
def FX9_laysMachines (w : HS) (a0 : Nat) (a1 : Int32) : Option (Unit × HS) :=
  okb (hc w a0 == 9) (bnd (setI w a0 30 (0 : Int32)) fun w1 =>
  (FX9_laysMachines_7 FUEL w1 a0 a1 (0 : Int32)))
set_option maxHeartbeats 4000000 in
set_option maxRecDepth 100000 in
theorem rX9_laysMachines {ar : Nat → Nat → Nat} {c0 : Nat → Nat} {sz : Nat} {g : PH} {w w' : HS} {a0 : Nat} {a1 : Int32} {r : Unit} (P : Rel ar c0 sz g w) (hF : FX9_laysMachines w a0 a1 = some (r, w')) : GR ar c0 sz r w' (fX9_laysMachines g a0 a1) := by
  unfold FX9_laysMachines at hF
  unfold fX9_laysMachines
  replace hF := okb_some hF
  obtain ⟨h0, hF⟩ := hF
  replace h0 := P.cls h0
  refine GR.ok (P.rO h0 (by decide)) ?_
  replace hF := bnd_e hF
  obtain ⟨w1, e2, hF⟩ := hF
  obtain ⟨g3, e4, P⟩ := P.putI (k := 30) h0 (by decide) (by decide) (by decide) e2
  refine GR.bind e4 ?_
  exact rX9_laysMachines_7  _ _ _ _ _ _ h0 P hF
def FX9_stepOp_8  : Nat → HS → Int32 → Int32 → Int32 → Option (Int32 × HS)
  | 0, _, _, _, _ => none
  | n + 1, w, v3, v4, v5 =>
  if v5 ≤ v3 then (some ((v4 - v4 / (3 : Int32) * (3 : Int32)), w)) else
  (FX9_stepOp_8 n w v3 (v4 / (3 : Int32)) (v5 + (-1 : Int32)))
set_option maxHeartbeats 4000000 in
set_option maxRecDepth 100000 in
theorem rX9_stepOp_8 {ar : Nat → Nat → Nat} {c0 : Nat → Nat} {sz : Nat} {r : Int32} {w' : HS}   : ∀ (n : Nat) (g : PH) (w : HS) (v3 : Int32) (v4 : Int32) (v5 : Int32), Rel ar c0 sz g w → FX9_stepOp_8  n w v3 v4 v5 = some (r, w') → GR ar c0 sz r w' (fX9_stepOp_8  n g v3 v4 v5) := by
  intro n
  induction n with
  | zero =>
    intro g w v3 v4 v5 P hF
    rw [FX9_stepOp_8] at hF
    cases hF
  | succ n ih =>
    intro g w v3 v4 v5 P hF
    rw [FX9_stepOp_8] at hF
    rw [fX9_stepOp_8]
    by_cases c1 : v5 ≤ v3
    · replace hF := ite_t c1 hF
      refine GR.t c1 ?_
      obtain ⟨f1, f2⟩ := finW hF
      subst f1
      subst f2
      exact GR.ret P
    replace hF := ite_f c1 hF
    refine GR.f c1 ?_
    exact ih _ _ _ _ _ P hF
def FX9_stepOp (w : HS) (a0 : Nat) (a1 : Int32) (a2 : Int32) (a3 : Int32) : Option (Int32 × HS) :=
  okb (hc w a0 == 9) (FX9_stepOp_8 FUEL w a3 a1 (a2 - (1 : Int32)))
set_option maxHeartbeats 4000000 in
set_option maxRecDepth 100000 in
theorem rX9_stepOp {ar : Nat → Nat → Nat} {c0 : Nat → Nat} {sz : Nat} {g : PH} {w w' : HS} {a0 : Nat} {a1 : Int32} {a2 : Int32} {a3 : Int32} {r : Int32} (P : Rel ar c0 sz g w) (hF : FX9_stepOp w a0 a1 a2 a3 = some (r, w')) : GR ar c0 sz r w' (fX9_stepOp g a0 a1 a2 a3) := by
  unfold FX9_stepOp at hF
  unfold fX9_stepOp
  replace hF := okb_some hF
  obtain ⟨h0, hF⟩ := hF
  replace h0 := P.cls h0
  refine GR.ok (P.rO h0 (by decide)) ?_
  exact rX9_stepOp_8  _ _ _ _ _ _ P hF
def FX9_soundBehind_49 (k6 : HS → Nat → Int32 → Int32 → Int32 → Int32 → Option (Int32 × HS)) (w : HS) (v0 : Nat) (v2 : Int32) (v3 : Int32) (v5 : Int32) (s0 : Int32) : Option (Int32 × HS) :=
  k6 w v0 v2 v3 s0 (v5 + (1 : Int32))
set_option maxHeartbeats 4000000 in
set_option maxRecDepth 100000 in
theorem rX9_soundBehind_49 {ar : Nat → Nat → Nat} {c0 : Nat → Nat} {sz : Nat} {r : Int32} {w' : HS} {k6 : HS → Nat → Int32 → Int32 → Int32 → Int32 → Option (Int32 × HS)} {j6 : PH → Nat → Int32 → Int32 → Int32 → Int32 → Option (Int32 × PH)} (hk6 : ∀ (g : PH) (w : HS) (v0 : Nat) (v2 : Int32) (v3 : Int32) (v4 : Int32) (v5 : Int32), c0 v0 = 9 → Rel ar c0 sz g w → k6 w v0 v2 v3 v4 v5 = some (r, w') → GR ar c0 sz r w' (j6 g v0 v2 v3 v4 v5)) {g : PH} {w : HS} {v0 : Nat} {v2 : Int32} {v3 : Int32} {v5 : Int32} {s0 : Int32} (h0 : c0 v0 = 9) (P : Rel ar c0 sz g w) (hF : FX9_soundBehind_49 k6 w v0 v2 v3 v5 s0 = some (r, w')) : GR ar c0 sz r w' (fX9_soundBehind_49 j6 g v0 v2 v3 v5 s0) := by
  unfold FX9_soundBehind_49 at hF
  unfold fX9_soundBehind_49
  exact hk6 _ _ _ _ _ _ _ h0 P hF
def FX9_soundBehind_35 (k6 : HS → Nat → Int32 → Int32 → Int32 → Int32 → Option (Int32 × HS)) (w : HS) (v0 : Nat) (v2 : Int32) (v3 : Int32) (v4 : Int32) (v5 : Int32) (v6 : Int32) : Option (Int32 × HS) :=
  if v6 = 0 then (FX9_soundBehind_49 (k6) w v0 v2 v3 v5 v4) else
  (FX9_soundBehind_49 (k6) w v0 v2 v3 v5 (v6 - (1 : Int32)))
set_option maxHeartbeats 4000000 in
set_option maxRecDepth 100000 in
theorem rX9_soundBehind_35 {ar : Nat → Nat → Nat} {c0 : Nat → Nat} {sz : Nat} {r : Int32} {w' : HS} {k6 : HS → Nat → Int32 → Int32 → Int32 → Int32 → Option (Int32 × HS)} {j6 : PH → Nat → Int32 → Int32 → Int32 → Int32 → Option (Int32 × PH)} (hk6 : ∀ (g : PH) (w : HS) (v0 : Nat) (v2 : Int32) (v3 : Int32) (v4 : Int32) (v5 : Int32), c0 v0 = 9 → Rel ar c0 sz g w → k6 w v0 v2 v3 v4 v5 = some (r, w') → GR ar c0 sz r w' (j6 g v0 v2 v3 v4 v5)) {g : PH} {w : HS} {v0 : Nat} {v2 : Int32} {v3 : Int32} {v4 : Int32} {v5 : Int32} {v6 : Int32} (h0 : c0 v0 = 9) (P : Rel ar c0 sz g w) (hF : FX9_soundBehind_35 k6 w v0 v2 v3 v4 v5 v6 = some (r, w')) : GR ar c0 sz r w' (fX9_soundBehind_35 j6 g v0 v2 v3 v4 v5 v6) := by
  unfold FX9_soundBehind_35 at hF
  unfold fX9_soundBehind_35
  by_cases c1 : v6 = 0
  · replace hF := ite_t c1 hF
    refine GR.t c1 ?_
    exact rX9_soundBehind_49 hk6 h0 P hF
  replace hF := ite_f c1 hF
  refine GR.f c1 ?_
  exact rX9_soundBehind_49 hk6 h0 P hF
def FX9_soundBehind_6  : Nat → HS → Nat → Int32 → Int32 → Int32 → Int32 → Option (Int32 × HS)
  | 0, _, _, _, _, _, _ => none
  | n + 1, w, v0, v2, v3, v4, v5 =>
  if v3 ≤ v5 then (some (v4, w)) else
  ((FX9_stepOp w v0 v2 v3 v5).bind fun q2 =>
  (if q2.1 = 0 then (if v4 = (2 : Int32) then (some ((-1 : Int32), q2.2)) else
  (FX9_soundBehind_35 (FX9_soundBehind_6 n) q2.2 v0 v2 v3 v4 v5 q2.1)) else
  (FX9_soundBehind_35 (FX9_soundBehind_6 n) q2.2 v0 v2 v3 v4 v5 q2.1)))
set_option maxHeartbeats 4000000 in
set_option maxRecDepth 100000 in
theorem rX9_soundBehind_6 {ar : Nat → Nat → Nat} {c0 : Nat → Nat} {sz : Nat} {r : Int32} {w' : HS}   : ∀ (n : Nat) (g : PH) (w : HS) (v0 : Nat) (v2 : Int32) (v3 : Int32) (v4 : Int32) (v5 : Int32), c0 v0 = 9 → Rel ar c0 sz g w → FX9_soundBehind_6  n w v0 v2 v3 v4 v5 = some (r, w') → GR ar c0 sz r w' (fX9_soundBehind_6  n g v0 v2 v3 v4 v5) := by
  intro n
  induction n with
  | zero =>
    intro g w v0 v2 v3 v4 v5 h0 P hF
    rw [FX9_soundBehind_6] at hF
    cases hF
  | succ n ih =>
    intro g w v0 v2 v3 v4 v5 h0 P hF
    rw [FX9_soundBehind_6] at hF
    rw [fX9_soundBehind_6]
    by_cases c1 : v3 ≤ v5
    · replace hF := ite_t c1 hF
      refine GR.t c1 ?_
      obtain ⟨f1, f2⟩ := finW hF
      subst f1
      subst f2
      exact GR.ret P
    replace hF := ite_f c1 hF
    refine GR.f c1 ?_
    replace hF := ob_some hF
    obtain ⟨q2, h3, hF⟩ := hF
    obtain ⟨g4, e5, P⟩ := rX9_stepOp (r := q2.1) (w' := q2.2) P h3
    refine GR.bind e5 ?_
    by_cases c6 : q2.1 = 0
    · replace hF := ite_t c6 hF
      refine GR.t c6 ?_
      by_cases c7 : v4 = (2 : Int32)
      · replace hF := ite_t c7 hF
        refine GR.t c7 ?_
        obtain ⟨f1, f2⟩ := finW hF
        subst f1
        subst f2
        exact GR.ret P
      replace hF := ite_f c7 hF
      refine GR.f c7 ?_
      exact rX9_soundBehind_35 ih h0 P hF
    replace hF := ite_f c6 hF
    refine GR.f c6 ?_
    exact rX9_soundBehind_35 ih h0 P hF
def FX9_soundBehind (w : HS) (a0 : Nat) (a1 : Int32) (a2 : Int32) (a3 : Int32) : Option (Int32 × HS) :=
  okb (hc w a0 == 9) (FX9_soundBehind_6 FUEL w a0 a2 a3 a1 (0 : Int32))
set_option maxHeartbeats 4000000 in
set_option maxRecDepth 100000 in
theorem rX9_soundBehind {ar : Nat → Nat → Nat} {c0 : Nat → Nat} {sz : Nat} {g : PH} {w w' : HS} {a0 : Nat} {a1 : Int32} {a2 : Int32} {a3 : Int32} {r : Int32} (P : Rel ar c0 sz g w) (hF : FX9_soundBehind w a0 a1 a2 a3 = some (r, w')) : GR ar c0 sz r w' (fX9_soundBehind g a0 a1 a2 a3) := by
  unfold FX9_soundBehind at hF
  unfold fX9_soundBehind
  replace hF := okb_some hF
  obtain ⟨h0, hF⟩ := hF
  replace h0 := P.cls h0
  refine GR.ok (P.rO h0 (by decide)) ?_
  exact rX9_soundBehind_6  _ _ _ _ _ _ _ _ h0 P hF
def FX9_machineBehind_126 (k45 : HS → Nat → Int32 → Int32 → Int32 → Int32 → Int32 → Option (Int32 × HS)) (k62 : HS → Nat → Int32 → Int32 → Int32 → Int32 → Int32 → Int32 → Int32 → Option (Int32 × HS)) (w : HS) (v0 : Nat) (v1 : Int32) (v3 : Int32) (v4 : Int32) (v5 : Int32) (v7 : Int32) (v9 : Int32) (s0 : Int32) : Option (Int32 × HS) :=
  k62 w v0 v1 v3 v4 v5 v7 s0 (v9 + (1 : Int32))
set_option maxHeartbeats 4000000 in
set_option maxRecDepth 100000 in
theorem rX9_machineBehind_126 {ar : Nat → Nat → Nat} {c0 : Nat → Nat} {sz : Nat} {r : Int32} {w' : HS} {k45 : HS → Nat → Int32 → Int32 → Int32 → Int32 → Int32 → Option (Int32 × HS)} {j45 : PH → Nat → Int32 → Int32 → Int32 → Int32 → Int32 → Option (Int32 × PH)} {k62 : HS → Nat → Int32 → Int32 → Int32 → Int32 → Int32 → Int32 → Int32 → Option (Int32 × HS)} {j62 : PH → Nat → Int32 → Int32 → Int32 → Int32 → Int32 → Int32 → Int32 → Option (Int32 × PH)} (hk45 : ∀ (g : PH) (w : HS) (v0 : Nat) (v1 : Int32) (v3 : Int32) (v4 : Int32) (v5 : Int32) (v7 : Int32), c0 v0 = 9 → Rel ar c0 sz g w → k45 w v0 v1 v3 v4 v5 v7 = some (r, w') → GR ar c0 sz r w' (j45 g v0 v1 v3 v4 v5 v7)) (hk62 : ∀ (g : PH) (w : HS) (v0 : Nat) (v1 : Int32) (v3 : Int32) (v4 : Int32) (v5 : Int32) (v7 : Int32) (v8 : Int32) (v9 : Int32), c0 v0 = 9 → Rel ar c0 sz g w → k62 w v0 v1 v3 v4 v5 v7 v8 v9 = some (r, w') → GR ar c0 sz r w' (j62 g v0 v1 v3 v4 v5 v7 v8 v9)) {g : PH} {w : HS} {v0 : Nat} {v1 : Int32} {v3 : Int32} {v4 : Int32} {v5 : Int32} {v7 : Int32} {v9 : Int32} {s0 : Int32} (h0 : c0 v0 = 9) (P : Rel ar c0 sz g w) (hF : FX9_machineBehind_126 k45 k62 w v0 v1 v3 v4 v5 v7 v9 s0 = some (r, w')) : GR ar c0 sz r w' (fX9_machineBehind_126 j45 j62 g v0 v1 v3 v4 v5 v7 v9 s0) := by
  unfold FX9_machineBehind_126 at hF
  unfold fX9_machineBehind_126
  exact hk62 _ _ _ _ _ _ _ _ _ _ h0 P hF
def FX9_machineBehind_109 (k45 : HS → Nat → Int32 → Int32 → Int32 → Int32 → Int32 → Option (Int32 × HS)) (k62 : HS → Nat → Int32 → Int32 → Int32 → Int32 → Int32 → Int32 → Int32 → Option (Int32 × HS)) (w : HS) (v0 : Nat) (v1 : Int32) (v3 : Int32) (v4 : Int32) (v5 : Int32) (v7 : Int32) (v8 : Int32) (v9 : Int32) (v10 : Int32) (s0 : Int32) (s1 : Int32) (s2 : Nat) : Option (Int32 × HS) :=
  (FX9_opAt w s2 s1 s0).bind fun q1 =>
  (if v10 = 0 then (FX9_machineBehind_126 (k45) (k62) q1.2 v0 v1 v3 v4 v5 v7 v9 v8) else
  (FX9_machineBehind_126 (k45) (k62) q1.2 v0 v1 v3 v4 v5 v7 v9 (v10 - (1 : Int32))))
set_option maxHeartbeats 4000000 in
set_option maxRecDepth 100000 in
theorem rX9_machineBehind_109 {ar : Nat → Nat → Nat} {c0 : Nat → Nat} {sz : Nat} {r : Int32} {w' : HS} {k45 : HS → Nat → Int32 → Int32 → Int32 → Int32 → Int32 → Option (Int32 × HS)} {j45 : PH → Nat → Int32 → Int32 → Int32 → Int32 → Int32 → Option (Int32 × PH)} {k62 : HS → Nat → Int32 → Int32 → Int32 → Int32 → Int32 → Int32 → Int32 → Option (Int32 × HS)} {j62 : PH → Nat → Int32 → Int32 → Int32 → Int32 → Int32 → Int32 → Int32 → Option (Int32 × PH)} (hk45 : ∀ (g : PH) (w : HS) (v0 : Nat) (v1 : Int32) (v3 : Int32) (v4 : Int32) (v5 : Int32) (v7 : Int32), c0 v0 = 9 → Rel ar c0 sz g w → k45 w v0 v1 v3 v4 v5 v7 = some (r, w') → GR ar c0 sz r w' (j45 g v0 v1 v3 v4 v5 v7)) (hk62 : ∀ (g : PH) (w : HS) (v0 : Nat) (v1 : Int32) (v3 : Int32) (v4 : Int32) (v5 : Int32) (v7 : Int32) (v8 : Int32) (v9 : Int32), c0 v0 = 9 → Rel ar c0 sz g w → k62 w v0 v1 v3 v4 v5 v7 v8 v9 = some (r, w') → GR ar c0 sz r w' (j62 g v0 v1 v3 v4 v5 v7 v8 v9)) {g : PH} {w : HS} {v0 : Nat} {v1 : Int32} {v3 : Int32} {v4 : Int32} {v5 : Int32} {v7 : Int32} {v8 : Int32} {v9 : Int32} {v10 : Int32} {s0 : Int32} {s1 : Int32} {s2 : Nat} (h0 : c0 v0 = 9) (P : Rel ar c0 sz g w) (hF : FX9_machineBehind_109 k45 k62 w v0 v1 v3 v4 v5 v7 v8 v9 v10 s0 s1 s2 = some (r, w')) : GR ar c0 sz r w' (fX9_machineBehind_109 j45 j62 g v0 v1 v3 v4 v5 v7 v8 v9 v10 s0 s1 s2) := by
  unfold FX9_machineBehind_109 at hF
  unfold fX9_machineBehind_109
  replace hF := ob_some hF
  obtain ⟨q1, h2, hF⟩ := hF
  obtain ⟨g3, e4, P⟩ := rX9_opAt (r := q1.1) (w' := q1.2) P h2
  refine GR.bind e4 ?_
  by_cases c5 : v10 = 0
  · replace hF := ite_t c5 hF
    refine GR.t c5 ?_
    exact rX9_machineBehind_126 hk45 hk62 h0 P hF
  replace hF := ite_f c5 hF
  refine GR.f c5 ?_
  exact rX9_machineBehind_126 hk45 hk62 h0 P hF
def FX9_machineBehind_95 (k45 : HS → Nat → Int32 → Int32 → Int32 → Int32 → Int32 → Option (Int32 × HS)) (k62 : HS → Nat → Int32 → Int32 → Int32 → Int32 → Int32 → Int32 → Int32 → Option (Int32 × HS)) (w : HS) (v0 : Nat) (v1 : Int32) (v3 : Int32) (v4 : Int32) (v5 : Int32) (v7 : Int32) (v8 : Int32) (v9 : Int32) (v10 : Int32) (s0 : Int32) (s1 : Nat) : Option (Int32 × HS) :=
  if v10 = 0 then (FX9_machineBehind_109 (k45) (k62) w v0 v1 v3 v4 v5 v7 v8 v9 v10 v8 s0 s1) else
  (FX9_machineBehind_109 (k45) (k62) w v0 v1 v3 v4 v5 v7 v8 v9 v10 (v10 + (1 : Int32)) s0 s1)
set_option maxHeartbeats 4000000 in
set_option maxRecDepth 100000 in
theorem rX9_machineBehind_95 {ar : Nat → Nat → Nat} {c0 : Nat → Nat} {sz : Nat} {r : Int32} {w' : HS} {k45 : HS → Nat → Int32 → Int32 → Int32 → Int32 → Int32 → Option (Int32 × HS)} {j45 : PH → Nat → Int32 → Int32 → Int32 → Int32 → Int32 → Option (Int32 × PH)} {k62 : HS → Nat → Int32 → Int32 → Int32 → Int32 → Int32 → Int32 → Int32 → Option (Int32 × HS)} {j62 : PH → Nat → Int32 → Int32 → Int32 → Int32 → Int32 → Int32 → Int32 → Option (Int32 × PH)} (hk45 : ∀ (g : PH) (w : HS) (v0 : Nat) (v1 : Int32) (v3 : Int32) (v4 : Int32) (v5 : Int32) (v7 : Int32), c0 v0 = 9 → Rel ar c0 sz g w → k45 w v0 v1 v3 v4 v5 v7 = some (r, w') → GR ar c0 sz r w' (j45 g v0 v1 v3 v4 v5 v7)) (hk62 : ∀ (g : PH) (w : HS) (v0 : Nat) (v1 : Int32) (v3 : Int32) (v4 : Int32) (v5 : Int32) (v7 : Int32) (v8 : Int32) (v9 : Int32), c0 v0 = 9 → Rel ar c0 sz g w → k62 w v0 v1 v3 v4 v5 v7 v8 v9 = some (r, w') → GR ar c0 sz r w' (j62 g v0 v1 v3 v4 v5 v7 v8 v9)) {g : PH} {w : HS} {v0 : Nat} {v1 : Int32} {v3 : Int32} {v4 : Int32} {v5 : Int32} {v7 : Int32} {v8 : Int32} {v9 : Int32} {v10 : Int32} {s0 : Int32} {s1 : Nat} (h0 : c0 v0 = 9) (P : Rel ar c0 sz g w) (hF : FX9_machineBehind_95 k45 k62 w v0 v1 v3 v4 v5 v7 v8 v9 v10 s0 s1 = some (r, w')) : GR ar c0 sz r w' (fX9_machineBehind_95 j45 j62 g v0 v1 v3 v4 v5 v7 v8 v9 v10 s0 s1) := by
  unfold FX9_machineBehind_95 at hF
  unfold fX9_machineBehind_95
  by_cases c1 : v10 = 0
  · replace hF := ite_t c1 hF
    refine GR.t c1 ?_
    exact rX9_machineBehind_109 hk45 hk62 h0 P hF
  replace hF := ite_f c1 hF
  refine GR.f c1 ?_
  exact rX9_machineBehind_109 hk45 hk62 h0 P hF
def FX9_machineBehind_62 (k45 : HS → Nat → Int32 → Int32 → Int32 → Int32 → Int32 → Option (Int32 × HS)) : Nat → HS → Nat → Int32 → Int32 → Int32 → Int32 → Int32 → Int32 → Int32 → Option (Int32 × HS)
  | 0, _, _, _, _, _, _, _, _, _ => none
  | n + 1, w, v0, v1, v3, v4, v5, v7, v8, v9 =>
  if v5 ≤ v9 then (k45 w v0 v1 v3 v4 v5 (v7 + (1 : Int32))) else
  ((FX9_stepOp w v0 v4 v5 v9).bind fun q2 =>
  (if v3 = 0 then (FX9_machineBehind_95 (k45) (FX9_machineBehind_62 k45 n) q2.2 v0 v1 v3 v4 v5 v7 v8 v9 q2.1 v7 v0) else
  (FX9_machineBehind_95 (k45) (FX9_machineBehind_62 k45 n) q2.2 v0 v1 v3 v4 v5 v7 v8 v9 q2.1 ((1 : Int32) - v7) v0)))
set_option maxHeartbeats 4000000 in
set_option maxRecDepth 100000 in
theorem rX9_machineBehind_62 {ar : Nat → Nat → Nat} {c0 : Nat → Nat} {sz : Nat} {r : Int32} {w' : HS} {k45 : HS → Nat → Int32 → Int32 → Int32 → Int32 → Int32 → Option (Int32 × HS)} {j45 : PH → Nat → Int32 → Int32 → Int32 → Int32 → Int32 → Option (Int32 × PH)} (hk45 : ∀ (g : PH) (w : HS) (v0 : Nat) (v1 : Int32) (v3 : Int32) (v4 : Int32) (v5 : Int32) (v7 : Int32), c0 v0 = 9 → Rel ar c0 sz g w → k45 w v0 v1 v3 v4 v5 v7 = some (r, w') → GR ar c0 sz r w' (j45 g v0 v1 v3 v4 v5 v7)) : ∀ (n : Nat) (g : PH) (w : HS) (v0 : Nat) (v1 : Int32) (v3 : Int32) (v4 : Int32) (v5 : Int32) (v7 : Int32) (v8 : Int32) (v9 : Int32), c0 v0 = 9 → Rel ar c0 sz g w → FX9_machineBehind_62 k45 n w v0 v1 v3 v4 v5 v7 v8 v9 = some (r, w') → GR ar c0 sz r w' (fX9_machineBehind_62 j45 n g v0 v1 v3 v4 v5 v7 v8 v9) := by
  intro n
  induction n with
  | zero =>
    intro g w v0 v1 v3 v4 v5 v7 v8 v9 h0 P hF
    rw [FX9_machineBehind_62] at hF
    cases hF
  | succ n ih =>
    intro g w v0 v1 v3 v4 v5 v7 v8 v9 h0 P hF
    rw [FX9_machineBehind_62] at hF
    rw [fX9_machineBehind_62]
    by_cases c1 : v5 ≤ v9
    · replace hF := ite_t c1 hF
      refine GR.t c1 ?_
      exact hk45 _ _ _ _ _ _ _ _ h0 P hF
    replace hF := ite_f c1 hF
    refine GR.f c1 ?_
    replace hF := ob_some hF
    obtain ⟨q2, h3, hF⟩ := hF
    obtain ⟨g4, e5, P⟩ := rX9_stepOp (r := q2.1) (w' := q2.2) P h3
    refine GR.bind e5 ?_
    by_cases c6 : v3 = 0
    · replace hF := ite_t c6 hF
      refine GR.t c6 ?_
      exact rX9_machineBehind_95 hk45 ih h0 P hF
    replace hF := ite_f c6 hF
    refine GR.f c6 ?_
    exact rX9_machineBehind_95 hk45 ih h0 P hF
def FX9_machineBehind_45  : Nat → HS → Nat → Int32 → Int32 → Int32 → Int32 → Int32 → Option (Int32 × HS)
  | 0, _, _, _, _, _, _, _ => none
  | n + 1, w, v0, v1, v3, v4, v5, v7 =>
  if (2 : Int32) ≤ v7 then (if (hi w v0 20) ≤ 0 then (some ((ha w v0 16 0), w)) else
  (some ((4 : Int32), w))) else
  ((FX9_partOf w v0 v1 (0 : Int32)).bind fun q3 =>
  (FX9_machineBehind_62 (FX9_machineBehind_45 n) FUEL q3.2 v0 v1 v3 v4 v5 v7 q3.1 (0 : Int32)))
set_option maxHeartbeats 4000000 in
set_option maxRecDepth 100000 in
theorem rX9_machineBehind_45 {ar : Nat → Nat → Nat} {c0 : Nat → Nat} {sz : Nat} {r : Int32} {w' : HS}   : ∀ (n : Nat) (g : PH) (w : HS) (v0 : Nat) (v1 : Int32) (v3 : Int32) (v4 : Int32) (v5 : Int32) (v7 : Int32), c0 v0 = 9 → Rel ar c0 sz g w → FX9_machineBehind_45  n w v0 v1 v3 v4 v5 v7 = some (r, w') → GR ar c0 sz r w' (fX9_machineBehind_45  n g v0 v1 v3 v4 v5 v7) := by
  intro n
  induction n with
  | zero =>
    intro g w v0 v1 v3 v4 v5 v7 h0 P hF
    rw [FX9_machineBehind_45] at hF
    cases hF
  | succ n ih =>
    intro g w v0 v1 v3 v4 v5 v7 h0 P hF
    rw [FX9_machineBehind_45] at hF
    rw [fX9_machineBehind_45]
    by_cases c1 : (2 : Int32) ≤ v7
    · replace hF := ite_t c1 hF
      refine GR.t c1 ?_
      refine GR.bind (P.rI (k := 20) h0 (by decide) (by decide) (by decide)) ?_
      by_cases c2 : (hi w v0 20) ≤ 0
      · replace hF := ite_t c2 hF
        refine GR.t c2 ?_
        refine GR.bind (P.getRa (k := 16) h0 (by decide) (by decide) (by decide)) ?_
        refine GR.bind (P.dI (k := 16) (n := 0) h0 (by decide) (by decide) (by decide) (by decide) (by decide) (by decide)) ?_
        obtain ⟨f1, f2⟩ := finW hF
        subst f1
        subst f2
        exact GR.ret P
      replace hF := ite_f c2 hF
      refine GR.f c2 ?_
      obtain ⟨f1, f2⟩ := finW hF
      subst f1
      subst f2
      exact GR.ret P
    replace hF := ite_f c1 hF
    refine GR.f c1 ?_
    replace hF := ob_some hF
    obtain ⟨q3, h4, hF⟩ := hF
    obtain ⟨g5, e6, P⟩ := rX9_partOf (r := q3.1) (w' := q3.2) P h4
    refine GR.bind e6 ?_
    exact rX9_machineBehind_62 ih _ _ _ _ _ _ _ _ _ _ _ h0 P hF
def FX9_machineBehind (w : HS) (a0 : Nat) (a1 : Int32) (a2 : Int32) (a3 : Int32) (a4 : Int32) (a5 : Int32) : Option (Int32 × HS) :=
  okb (hc w a0 == 9) ((FX9_partOf w a0 a1 (a2 + (1 : Int32))).bind fun q1 =>
  (if q1.1 = (4 : Int32) then (some ((4 : Int32), q1.2)) else
  ((FX9_triesMachine q1.2 a0 a2 (0 : Int32)).bind fun q6 =>
  (bnd (setA q6.2 a0 16 0 q1.1) fun w12 =>
  (bnd (setI w12 a0 20 (0 : Int32)) fun w14 =>
  (bnd (setI w14 a0 22 (0 : Int32)) fun w18 =>
  (FX9_machineBehind_45 FUEL w18 a0 a1 a3 a4 a5 (0 : Int32))))))))
set_option maxHeartbeats 4000000 in
set_option maxRecDepth 100000 in
theorem rX9_machineBehind {ar : Nat → Nat → Nat} {c0 : Nat → Nat} {sz : Nat} {g : PH} {w w' : HS} {a0 : Nat} {a1 : Int32} {a2 : Int32} {a3 : Int32} {a4 : Int32} {a5 : Int32} {r : Int32} (P : Rel ar c0 sz g w) (hF : FX9_machineBehind w a0 a1 a2 a3 a4 a5 = some (r, w')) : GR ar c0 sz r w' (fX9_machineBehind g a0 a1 a2 a3 a4 a5) := by
  unfold FX9_machineBehind at hF
  unfold fX9_machineBehind
  replace hF := okb_some hF
  obtain ⟨h0, hF⟩ := hF
  replace h0 := P.cls h0
  refine GR.ok (P.rO h0 (by decide)) ?_
  replace hF := ob_some hF
  obtain ⟨q1, h2, hF⟩ := hF
  obtain ⟨g3, e4, P⟩ := rX9_partOf (r := q1.1) (w' := q1.2) P h2
  refine GR.bind e4 ?_
  by_cases c5 : q1.1 = (4 : Int32)
  · replace hF := ite_t c5 hF
    refine GR.t c5 ?_
    obtain ⟨f1, f2⟩ := finW hF
    subst f1
    subst f2
    exact GR.ret P
  replace hF := ite_f c5 hF
  refine GR.f c5 ?_
  replace hF := ob_some hF
  obtain ⟨q6, h7, hF⟩ := hF
  obtain ⟨g8, e9, P⟩ := rX9_triesMachine (r := q6.1) (w' := q6.2) P h7
  refine GR.bind e9 ?_
  refine GR.bind (P.getRa (k := 16) h0 (by decide) (by decide) (by decide)) ?_
  replace hF := bnd_e hF
  obtain ⟨w12, e13, hF⟩ := hF
  obtain ⟨g10, e11, P⟩ := P.sI (k := 16) (kd := 0) (j := (0 : Int32)) h0 (by decide) (by decide) (by decide) (by decide) (by decide) (by decide) e13
  refine GR.bind e11 ?_
  replace hF := bnd_e hF
  obtain ⟨w14, e15, hF⟩ := hF
  obtain ⟨g16, e17, P⟩ := P.putI (k := 20) h0 (by decide) (by decide) (by decide) e15
  refine GR.bind e17 ?_
  replace hF := bnd_e hF
  obtain ⟨w18, e19, hF⟩ := hF
  obtain ⟨g20, e21, P⟩ := P.putI (k := 22) h0 (by decide) (by decide) (by decide) e19
  refine GR.bind e21 ?_
  exact rX9_machineBehind_45  _ _ _ _ _ _ _ _ _ h0 P hF
def FX9_pow (w : HS) (a0 : Int32) : Option (Int32 × HS) :=
  if a0 = (1 : Int32) then (some ((3 : Int32), w)) else
  (if a0 = (2 : Int32) then (some ((9 : Int32), w)) else
  (some ((27 : Int32), w)))
set_option maxHeartbeats 4000000 in
set_option maxRecDepth 100000 in
theorem rX9_pow {ar : Nat → Nat → Nat} {c0 : Nat → Nat} {sz : Nat} {g : PH} {w w' : HS} {a0 : Int32} {r : Int32} (P : Rel ar c0 sz g w) (hF : FX9_pow w a0 = some (r, w')) : GR ar c0 sz r w' (fX9_pow g a0) := by
  unfold FX9_pow at hF
  unfold fX9_pow
  by_cases c1 : a0 = (1 : Int32)
  · replace hF := ite_t c1 hF
    refine GR.t c1 ?_
    obtain ⟨f1, f2⟩ := finW hF
    subst f1
    subst f2
    exact GR.ret P
  replace hF := ite_f c1 hF
  refine GR.f c1 ?_
  by_cases c2 : a0 = (2 : Int32)
  · replace hF := ite_t c2 hF
    refine GR.t c2 ?_
    obtain ⟨f1, f2⟩ := finW hF
    subst f1
    subst f2
    exact GR.ret P
  replace hF := ite_f c2 hF
  refine GR.f c2 ?_
  obtain ⟨f1, f2⟩ := finW hF
  subst f1
  subst f2
  exact GR.ret P
