def FX5_add (w : HS) (a0 : Nat) (a1 : Int32) (a2 : Int32) : Option (Unit × HS) :=
  okb (hc w a0 == 5) (if (240 : Int32) ≤ (hi w a0 0) then (some ((), w)) else
  (okb (inb (hi w a0 0) 240) (bnd (setA w a0 2 (hi w a0 0).toNatClampNeg (((32 : Int32) * a1) + a2)) fun w5 =>
  (bnd (setI w5 a0 0 ((hi w5 a0 0) + (1 : Int32))) fun w7 =>
  (some ((), w7))))))
set_option maxHeartbeats 4000000 in
set_option maxRecDepth 100000 in
theorem rX5_add {ar : Nat → Nat → Nat} {c0 : Nat → Nat} {sz : Nat} {g : PH} {w w' : HS} {a0 : Nat} {a1 : Int32} {a2 : Int32} {r : Unit} (P : Rel ar c0 sz g w) (hF : FX5_add w a0 a1 a2 = some (r, w')) : GR ar c0 sz r w' (fX5_add g a0 a1 a2) := by
  unfold FX5_add at hF
  unfold fX5_add
  replace hF := okb_some hF
  obtain ⟨h0, hF⟩ := hF
  replace h0 := P.cls h0
  refine GR.ok (P.rO h0 (by decide)) ?_
  refine GR.bind (P.rI (k := 0) h0 (by decide) (by decide) (by decide)) ?_
  by_cases c1 : (240 : Int32) ≤ (hi w a0 0)
  · replace hF := ite_t c1 hF
    refine GR.t c1 ?_
    obtain ⟨f1, f2⟩ := finW hF
    subst f1
    subst f2
    exact GR.ret P
  replace hF := ite_f c1 hF
  refine GR.f c1 ?_
  refine GR.bind (P.getRa (k := 2) h0 (by decide) (by decide) (by decide)) ?_
  refine GR.bind (P.rI (k := 0) h0 (by decide) (by decide) (by decide)) ?_
  replace hF := okb_some hF
  obtain ⟨h2, hF⟩ := hF
  replace hF := bnd_e hF
  obtain ⟨w5, e6, hF⟩ := hF
  obtain ⟨g3, e4, P⟩ := P.sI (k := 2) (kd := 0) (j := (hi w a0 0)) h0 (by decide) (by decide) (by decide) (by decide) h2 rfl e6
  refine GR.bind e4 ?_
  refine GR.bind (P.rI (k := 0) h0 (by decide) (by decide) (by decide)) ?_
  replace hF := bnd_e hF
  obtain ⟨w7, e8, hF⟩ := hF
  obtain ⟨g9, e10, P⟩ := P.putI (k := 0) h0 (by decide) (by decide) (by decide) e8
  refine GR.bind e10 ?_
  obtain ⟨f1, f2⟩ := finW hF
  subst f1
  subst f2
  exact GR.ret P
def FX5_kindOf (w : HS) (a0 : Nat) (a1 : Int32) : Option (Int32 × HS) :=
  okb (hc w a0 == 5) (if a1 < 0 then (some ((-1 : Int32), w)) else
  (if (hi w a0 0) ≤ a1 then (some ((-1 : Int32), w)) else
  (if (240 : Int32) ≤ a1 then (some ((-1 : Int32), w)) else
  (okb (inb a1 240) (some (((ha w a0 2 a1.toNatClampNeg) >>> ((5 : Int32) &&& 31)), w))))))
set_option maxHeartbeats 4000000 in
set_option maxRecDepth 100000 in
theorem rX5_kindOf {ar : Nat → Nat → Nat} {c0 : Nat → Nat} {sz : Nat} {g : PH} {w w' : HS} {a0 : Nat} {a1 : Int32} {r : Int32} (P : Rel ar c0 sz g w) (hF : FX5_kindOf w a0 a1 = some (r, w')) : GR ar c0 sz r w' (fX5_kindOf g a0 a1) := by
  unfold FX5_kindOf at hF
  unfold fX5_kindOf
  replace hF := okb_some hF
  obtain ⟨h0, hF⟩ := hF
  replace h0 := P.cls h0
  refine GR.ok (P.rO h0 (by decide)) ?_
  by_cases c1 : a1 < 0
  · replace hF := ite_t c1 hF
    refine GR.t c1 ?_
    obtain ⟨f1, f2⟩ := finW hF
    subst f1
    subst f2
    exact GR.ret P
  replace hF := ite_f c1 hF
  refine GR.f c1 ?_
  refine GR.bind (P.rI (k := 0) h0 (by decide) (by decide) (by decide)) ?_
  by_cases c2 : (hi w a0 0) ≤ a1
  · replace hF := ite_t c2 hF
    refine GR.t c2 ?_
    obtain ⟨f1, f2⟩ := finW hF
    subst f1
    subst f2
    exact GR.ret P
  replace hF := ite_f c2 hF
  refine GR.f c2 ?_
  by_cases c3 : (240 : Int32) ≤ a1
  · replace hF := ite_t c3 hF
    refine GR.t c3 ?_
    obtain ⟨f1, f2⟩ := finW hF
    subst f1
    subst f2
    exact GR.ret P
  replace hF := ite_f c3 hF
  refine GR.f c3 ?_
  refine GR.bind (P.getRa (k := 2) h0 (by decide) (by decide) (by decide)) ?_
  replace hF := okb_some hF
  obtain ⟨h4, hF⟩ := hF
  refine GR.bind (P.dI (k := 2) (n := a1.toNatClampNeg) h0 (by decide) (by decide) (by decide) (by decide) h4 rfl) ?_
  obtain ⟨f1, f2⟩ := finW hF
  subst f1
  subst f2
  exact GR.ret P
def FX5_placementOf (w : HS) (a0 : Nat) (a1 : Int32) : Option (Int32 × HS) :=
  okb (hc w a0 == 5) (if a1 < 0 then (some ((0 : Int32), w)) else
  (if (hi w a0 0) ≤ a1 then (some ((0 : Int32), w)) else
  (if (240 : Int32) ≤ a1 then (some ((0 : Int32), w)) else
  (okb (inb a1 240) (some (((ha w a0 2 a1.toNatClampNeg) &&& (31 : Int32)), w))))))
set_option maxHeartbeats 4000000 in
set_option maxRecDepth 100000 in
theorem rX5_placementOf {ar : Nat → Nat → Nat} {c0 : Nat → Nat} {sz : Nat} {g : PH} {w w' : HS} {a0 : Nat} {a1 : Int32} {r : Int32} (P : Rel ar c0 sz g w) (hF : FX5_placementOf w a0 a1 = some (r, w')) : GR ar c0 sz r w' (fX5_placementOf g a0 a1) := by
  unfold FX5_placementOf at hF
  unfold fX5_placementOf
  replace hF := okb_some hF
  obtain ⟨h0, hF⟩ := hF
  replace h0 := P.cls h0
  refine GR.ok (P.rO h0 (by decide)) ?_
  by_cases c1 : a1 < 0
  · replace hF := ite_t c1 hF
    refine GR.t c1 ?_
    obtain ⟨f1, f2⟩ := finW hF
    subst f1
    subst f2
    exact GR.ret P
  replace hF := ite_f c1 hF
  refine GR.f c1 ?_
  refine GR.bind (P.rI (k := 0) h0 (by decide) (by decide) (by decide)) ?_
  by_cases c2 : (hi w a0 0) ≤ a1
  · replace hF := ite_t c2 hF
    refine GR.t c2 ?_
    obtain ⟨f1, f2⟩ := finW hF
    subst f1
    subst f2
    exact GR.ret P
  replace hF := ite_f c2 hF
  refine GR.f c2 ?_
  by_cases c3 : (240 : Int32) ≤ a1
  · replace hF := ite_t c3 hF
    refine GR.t c3 ?_
    obtain ⟨f1, f2⟩ := finW hF
    subst f1
    subst f2
    exact GR.ret P
  replace hF := ite_f c3 hF
  refine GR.f c3 ?_
  refine GR.bind (P.getRa (k := 2) h0 (by decide) (by decide) (by decide)) ?_
  replace hF := okb_some hF
  obtain ⟨h4, hF⟩ := hF
  refine GR.bind (P.dI (k := 2) (n := a1.toNatClampNeg) h0 (by decide) (by decide) (by decide) (by decide) h4 rfl) ?_
  obtain ⟨f1, f2⟩ := finW hF
  subst f1
  subst f2
  exact GR.ret P
def FX5_describe_103 (k53 : HS → Nat → Nat → Int32 → Int32 → Int32 → Option (Unit × HS)) (w : HS) (v0 : Nat) (v1 : Nat) (v3 : Int32) (v4 : Int32) (v5 : Int32) : Option (Unit × HS) :=
  k53 w v0 v1 v3 v4 (v5 + (1 : Int32))
set_option maxHeartbeats 4000000 in
set_option maxRecDepth 100000 in
theorem rX5_describe_103 {ar : Nat → Nat → Nat} {c0 : Nat → Nat} {sz : Nat} {r : Unit} {w' : HS} {k53 : HS → Nat → Nat → Int32 → Int32 → Int32 → Option (Unit × HS)} {j53 : PH → Nat → Nat → Int32 → Int32 → Int32 → Option (Unit × PH)} (hk53 : ∀ (g : PH) (w : HS) (v0 : Nat) (v1 : Nat) (v3 : Int32) (v4 : Int32) (v5 : Int32), c0 v0 = 5 → Rel ar c0 sz g w → k53 w v0 v1 v3 v4 v5 = some (r, w') → GR ar c0 sz r w' (j53 g v0 v1 v3 v4 v5)) {g : PH} {w : HS} {v0 : Nat} {v1 : Nat} {v3 : Int32} {v4 : Int32} {v5 : Int32} (h0 : c0 v0 = 5) (P : Rel ar c0 sz g w) (hF : FX5_describe_103 k53 w v0 v1 v3 v4 v5 = some (r, w')) : GR ar c0 sz r w' (fX5_describe_103 j53 g v0 v1 v3 v4 v5) := by
  unfold FX5_describe_103 at hF
  unfold fX5_describe_103
  exact hk53 _ _ _ _ _ _ _ h0 P hF
def FX5_describe_53  : Nat → HS → Nat → Nat → Int32 → Int32 → Int32 → Option (Unit × HS)
  | 0, _, _, _, _, _, _ => none
  | n + 1, w, v0, v1, v3, v4, v5 =>
  if v4 ≤ v5 then (some ((), w)) else
  ((FX7_numberAt w v1 v5).bind fun q2 =>
  (if q2.1 < 0 then (FX5_describe_103 (FX5_describe_53 n) q2.2 v0 v1 v3 v4 v5) else
  (if (320 : Int32) ≤ q2.1 then (FX5_describe_103 (FX5_describe_53 n) q2.2 v0 v1 v3 v4 v5) else
  (okb (inb (v3 + (q2.1 >>> ((6 : Int32) &&& 31))) 1200) (okb (inb (v3 + (q2.1 >>> ((6 : Int32) &&& 31))) 1200) (bnd (setJ q2.2 v0 5 ((v3 + (q2.1 >>> ((6 : Int32) &&& 31))).toNatClampNeg) ((hj q2.2 v0 5 ((v3 + (q2.1 >>> ((6 : Int32) &&& 31))).toNatClampNeg)) ||| ((1 : Int64) <<< ((q2.1 &&& (63 : Int32)).toInt64 &&& 63)))) fun w12 =>
  (FX5_describe_103 (FX5_describe_53 n) w12 v0 v1 v3 v4 v5)))))))
set_option maxHeartbeats 4000000 in
set_option maxRecDepth 100000 in
theorem rX5_describe_53 {ar : Nat → Nat → Nat} {c0 : Nat → Nat} {sz : Nat} {r : Unit} {w' : HS}   : ∀ (n : Nat) (g : PH) (w : HS) (v0 : Nat) (v1 : Nat) (v3 : Int32) (v4 : Int32) (v5 : Int32), c0 v0 = 5 → Rel ar c0 sz g w → FX5_describe_53  n w v0 v1 v3 v4 v5 = some (r, w') → GR ar c0 sz r w' (fX5_describe_53  n g v0 v1 v3 v4 v5) := by
  intro n
  induction n with
  | zero =>
    intro g w v0 v1 v3 v4 v5 h0 P hF
    rw [FX5_describe_53] at hF
    cases hF
  | succ n ih =>
    intro g w v0 v1 v3 v4 v5 h0 P hF
    rw [FX5_describe_53] at hF
    rw [fX5_describe_53]
    by_cases c1 : v4 ≤ v5
    · replace hF := ite_t c1 hF
      refine GR.t c1 ?_
      obtain ⟨f1, f2⟩ := finW hF
      subst f1
      subst f2
      exact GR.ret P
    replace hF := ite_f c1 hF
    refine GR.f c1 ?_
    replace hF := ob_some hF
    obtain ⟨q2, h3, hF⟩ := hF
    obtain ⟨g4, e5, P⟩ := rX7_numberAt (r := q2.1) (w' := q2.2) P h3
    refine GR.bind e5 ?_
    by_cases c6 : q2.1 < 0
    · replace hF := ite_t c6 hF
      refine GR.t c6 ?_
      exact rX5_describe_103 ih h0 P hF
    replace hF := ite_f c6 hF
    refine GR.f c6 ?_
    by_cases c7 : (320 : Int32) ≤ q2.1
    · replace hF := ite_t c7 hF
      refine GR.t c7 ?_
      exact rX5_describe_103 ih h0 P hF
    replace hF := ite_f c7 hF
    refine GR.f c7 ?_
    refine GR.bind (P.getRa (k := 5) h0 (by decide) (by decide) (by decide)) ?_
    replace hF := okb_some hF
    obtain ⟨h8, hF⟩ := hF
    refine GR.bind (P.dL (k := 5) (n := (v3 + (q2.1 >>> ((6 : Int32) &&& 31))).toNatClampNeg) h0 (by decide) (by decide) (by decide) h8 rfl) ?_
    replace hF := okb_some hF
    obtain ⟨h9, hF⟩ := hF
    replace hF := bnd_e hF
    obtain ⟨w12, e13, hF⟩ := hF
    obtain ⟨g10, e11, P⟩ := P.sL (k := 5) (j := (v3 + (q2.1 >>> ((6 : Int32) &&& 31)))) h0 (by decide) (by decide) (by decide) h9 rfl e13
    refine GR.bind e11 ?_
    exact rX5_describe_103 ih h0 P hF
def FX5_describe_7  : Nat → HS → Nat → Nat → Int32 → Int32 → Int32 → Option (Unit × HS)
  | 0, _, _, _, _, _, _ => none
  | n + 1, w, v0, v1, v2, v3, v4 =>
  if (5 : Int32) ≤ v4 then (okb (hc w v1 == 7) (okb (inb v2 240) (bnd (setA w v0 4 v2.toNatClampNeg (hi w v1 2)) fun w6 =>
  (FX5_describe_53 FUEL w6 v0 v1 v3 (if (hi w6 v1 2) < (60 : Int32) then (hi w6 v1 2) else (60 : Int32)) (0 : Int32))))) else
  (okb (inb (v3 + v4) 1200) (bnd (setJ w v0 5 ((v3 + v4).toNatClampNeg) (0 : Int64)) fun w11 =>
  (FX5_describe_7 n w11 v0 v1 v2 v3 (v4 + (1 : Int32)))))
set_option maxHeartbeats 4000000 in
set_option maxRecDepth 100000 in
theorem rX5_describe_7 {ar : Nat → Nat → Nat} {c0 : Nat → Nat} {sz : Nat} {r : Unit} {w' : HS}   : ∀ (n : Nat) (g : PH) (w : HS) (v0 : Nat) (v1 : Nat) (v2 : Int32) (v3 : Int32) (v4 : Int32), c0 v0 = 5 → Rel ar c0 sz g w → FX5_describe_7  n w v0 v1 v2 v3 v4 = some (r, w') → GR ar c0 sz r w' (fX5_describe_7  n g v0 v1 v2 v3 v4) := by
  intro n
  induction n with
  | zero =>
    intro g w v0 v1 v2 v3 v4 h0 P hF
    rw [FX5_describe_7] at hF
    cases hF
  | succ n ih =>
    intro g w v0 v1 v2 v3 v4 h0 P hF
    rw [FX5_describe_7] at hF
    rw [fX5_describe_7]
    by_cases c1 : (5 : Int32) ≤ v4
    · replace hF := ite_t c1 hF
      refine GR.t c1 ?_
      refine GR.bind (P.getRa (k := 4) h0 (by decide) (by decide) (by decide)) ?_
      replace hF := okb_some hF
      obtain ⟨h2, hF⟩ := hF
      replace h2 := P.cls h2
      refine GR.bind (P.rI (k := 2) h2 (by decide) (by decide) (by decide)) ?_
      replace hF := okb_some hF
      obtain ⟨h3, hF⟩ := hF
      replace hF := bnd_e hF
      obtain ⟨w6, e7, hF⟩ := hF
      obtain ⟨g4, e5, P⟩ := P.sI (k := 4) (kd := 0) (j := v2) h0 (by decide) (by decide) (by decide) (by decide) h3 rfl e7
      refine GR.bind e5 ?_
      refine GR.bind (P.rI (k := 2) h2 (by decide) (by decide) (by decide)) ?_
      exact rX5_describe_53  _ _ _ _ _ _ _ _ h0 P hF
    replace hF := ite_f c1 hF
    refine GR.f c1 ?_
    refine GR.bind (P.getRa (k := 5) h0 (by decide) (by decide) (by decide)) ?_
    replace hF := okb_some hF
    obtain ⟨h8, hF⟩ := hF
    replace hF := bnd_e hF
    obtain ⟨w11, e12, hF⟩ := hF
    obtain ⟨g9, e10, P⟩ := P.sL (k := 5) (j := (v3 + v4)) h0 (by decide) (by decide) (by decide) h8 rfl e12
    refine GR.bind e10 ?_
    exact ih _ _ _ _ _ _ _ h0 P hF
def FX5_describe (w : HS) (a0 : Nat) (a1 : Nat) (a2 : Int32) : Option (Unit × HS) :=
  okb (hc w a0 == 5) (FX5_describe_7 FUEL w a0 a1 a2 (a2 * (5 : Int32)) (0 : Int32))
set_option maxHeartbeats 4000000 in
set_option maxRecDepth 100000 in
theorem rX5_describe {ar : Nat → Nat → Nat} {c0 : Nat → Nat} {sz : Nat} {g : PH} {w w' : HS} {a0 : Nat} {a1 : Nat} {a2 : Int32} {r : Unit} (P : Rel ar c0 sz g w) (hF : FX5_describe w a0 a1 a2 = some (r, w')) : GR ar c0 sz r w' (fX5_describe g a0 a1 a2) := by
  unfold FX5_describe at hF
  unfold fX5_describe
  replace hF := okb_some hF
  obtain ⟨h0, hF⟩ := hF
  replace h0 := P.cls h0
  refine GR.ok (P.rO h0 (by decide)) ?_
  exact rX5_describe_7  _ _ _ _ _ _ _ _ h0 P hF
def FX5_isAlike_19  : Nat → HS → Nat → Int32 → Int32 → Int32 → Option (Int32 × HS)
  | 0, _, _, _, _, _ => none
  | n + 1, w, v0, v1, v2, v3 =>
  if (5 : Int32) ≤ v3 then (some ((1 : Int32), w)) else
  (okb (inb ((v1 * (5 : Int32)) + v3) 1200) (okb (inb ((v2 * (5 : Int32)) + v3) 1200) (if (lg_cmp (hj w v0 5 (((v1 * (5 : Int32)) + v3).toNatClampNeg)) (hj w v0 5 (((v2 * (5 : Int32)) + v3).toNatClampNeg))) = 0 then (FX5_isAlike_19 n w v0 v1 v2 (v3 + (1 : Int32))) else
  (some ((0 : Int32), w)))))
set_option maxHeartbeats 4000000 in
set_option maxRecDepth 100000 in
theorem rX5_isAlike_19 {ar : Nat → Nat → Nat} {c0 : Nat → Nat} {sz : Nat} {r : Int32} {w' : HS}   : ∀ (n : Nat) (g : PH) (w : HS) (v0 : Nat) (v1 : Int32) (v2 : Int32) (v3 : Int32), c0 v0 = 5 → Rel ar c0 sz g w → FX5_isAlike_19  n w v0 v1 v2 v3 = some (r, w') → GR ar c0 sz r w' (fX5_isAlike_19  n g v0 v1 v2 v3) := by
  intro n
  induction n with
  | zero =>
    intro g w v0 v1 v2 v3 h0 P hF
    rw [FX5_isAlike_19] at hF
    cases hF
  | succ n ih =>
    intro g w v0 v1 v2 v3 h0 P hF
    rw [FX5_isAlike_19] at hF
    rw [fX5_isAlike_19]
    by_cases c1 : (5 : Int32) ≤ v3
    · replace hF := ite_t c1 hF
      refine GR.t c1 ?_
      obtain ⟨f1, f2⟩ := finW hF
      subst f1
      subst f2
      exact GR.ret P
    replace hF := ite_f c1 hF
    refine GR.f c1 ?_
    refine GR.bind (P.getRa (k := 5) h0 (by decide) (by decide) (by decide)) ?_
    replace hF := okb_some hF
    obtain ⟨h2, hF⟩ := hF
    refine GR.bind (P.dL (k := 5) (n := ((v1 * (5 : Int32)) + v3).toNatClampNeg) h0 (by decide) (by decide) (by decide) h2 rfl) ?_
    refine GR.bind (P.getRa (k := 5) h0 (by decide) (by decide) (by decide)) ?_
    replace hF := okb_some hF
    obtain ⟨h3, hF⟩ := hF
    refine GR.bind (P.dL (k := 5) (n := ((v2 * (5 : Int32)) + v3).toNatClampNeg) h0 (by decide) (by decide) (by decide) h3 rfl) ?_
    by_cases c4 : (lg_cmp (hj w v0 5 (((v1 * (5 : Int32)) + v3).toNatClampNeg)) (hj w v0 5 (((v2 * (5 : Int32)) + v3).toNatClampNeg))) = 0
    · replace hF := ite_t c4 hF
      refine GR.t c4 ?_
      exact ih _ _ _ _ _ _ h0 P hF
    replace hF := ite_f c4 hF
    refine GR.f c4 ?_
    obtain ⟨f1, f2⟩ := finW hF
    subst f1
    subst f2
    exact GR.ret P
def FX5_isAlike (w : HS) (a0 : Nat) (a1 : Int32) (a2 : Int32) : Option (Int32 × HS) :=
  okb (hc w a0 == 5) (okb (inb a1 240) (okb (inb a2 240) (if (ha w a0 4 a1.toNatClampNeg) = (ha w a0 4 a2.toNatClampNeg) then (FX5_isAlike_19 FUEL w a0 a1 a2 (0 : Int32)) else
  (some ((0 : Int32), w)))))
set_option maxHeartbeats 4000000 in
set_option maxRecDepth 100000 in
theorem rX5_isAlike {ar : Nat → Nat → Nat} {c0 : Nat → Nat} {sz : Nat} {g : PH} {w w' : HS} {a0 : Nat} {a1 : Int32} {a2 : Int32} {r : Int32} (P : Rel ar c0 sz g w) (hF : FX5_isAlike w a0 a1 a2 = some (r, w')) : GR ar c0 sz r w' (fX5_isAlike g a0 a1 a2) := by
  unfold FX5_isAlike at hF
  unfold fX5_isAlike
  replace hF := okb_some hF
  obtain ⟨h0, hF⟩ := hF
  replace h0 := P.cls h0
  refine GR.ok (P.rO h0 (by decide)) ?_
  refine GR.bind (P.getRa (k := 4) h0 (by decide) (by decide) (by decide)) ?_
  replace hF := okb_some hF
  obtain ⟨h1, hF⟩ := hF
  refine GR.bind (P.dI (k := 4) (n := a1.toNatClampNeg) h0 (by decide) (by decide) (by decide) (by decide) h1 rfl) ?_
  refine GR.bind (P.getRa (k := 4) h0 (by decide) (by decide) (by decide)) ?_
  replace hF := okb_some hF
  obtain ⟨h2, hF⟩ := hF
  refine GR.bind (P.dI (k := 4) (n := a2.toNatClampNeg) h0 (by decide) (by decide) (by decide) (by decide) h2 rfl) ?_
  by_cases c3 : (ha w a0 4 a1.toNatClampNeg) = (ha w a0 4 a2.toNatClampNeg)
  · replace hF := ite_t c3 hF
    refine GR.t c3 ?_
    exact rX5_isAlike_19  _ _ _ _ _ _ _ h0 P hF
  replace hF := ite_f c3 hF
  refine GR.f c3 ?_
  obtain ⟨f1, f2⟩ := finW hF
  subst f1
  subst f2
  exact GR.ret P
def FX5_partWith_74  (w : HS) (v0 : Nat) (v2 : Int32) : Option (Int32 × HS) :=
  okb (inb v2 240) (okb (inb v2 240) (bnd (setA w v0 3 v2.toNatClampNeg ((ha w v0 3 v2.toNatClampNeg) + (1 : Int32))) fun w5 =>
  (okb (inb v2 240) (some ((ha w5 v0 3 v2.toNatClampNeg), w5)))))
set_option maxHeartbeats 4000000 in
set_option maxRecDepth 100000 in
theorem rX5_partWith_74 {ar : Nat → Nat → Nat} {c0 : Nat → Nat} {sz : Nat} {r : Int32} {w' : HS}   {g : PH} {w : HS} {v0 : Nat} {v2 : Int32} (h0 : c0 v0 = 5) (P : Rel ar c0 sz g w) (hF : FX5_partWith_74  w v0 v2 = some (r, w')) : GR ar c0 sz r w' (fX5_partWith_74  g v0 v2) := by
  unfold FX5_partWith_74 at hF
  unfold fX5_partWith_74
  refine GR.bind (P.getRa (k := 3) h0 (by decide) (by decide) (by decide)) ?_
  replace hF := okb_some hF
  obtain ⟨h1, hF⟩ := hF
  refine GR.bind (P.dI (k := 3) (n := v2.toNatClampNeg) h0 (by decide) (by decide) (by decide) (by decide) h1 rfl) ?_
  replace hF := okb_some hF
  obtain ⟨h2, hF⟩ := hF
  replace hF := bnd_e hF
  obtain ⟨w5, e6, hF⟩ := hF
  obtain ⟨g3, e4, P⟩ := P.sI (k := 3) (kd := 0) (j := v2) h0 (by decide) (by decide) (by decide) (by decide) h2 rfl e6
  refine GR.bind e4 ?_
  refine GR.bind (P.getRa (k := 3) h0 (by decide) (by decide) (by decide)) ?_
  replace hF := okb_some hF
  obtain ⟨h7, hF⟩ := hF
  refine GR.bind (P.dI (k := 3) (n := v2.toNatClampNeg) h0 (by decide) (by decide) (by decide) (by decide) h7 rfl) ?_
  obtain ⟨f1, f2⟩ := finW hF
  subst f1
  subst f2
  exact GR.ret P
def FX5_partWith_49  (w : HS) (v0 : Nat) (v2 : Int32) : Option (Int32 × HS) :=
  if v2 = (hi w v0 1) then (okb (inb v2 240) (bnd (setA w v0 3 v2.toNatClampNeg (0 : Int32)) fun w5 =>
  (bnd (setI w5 v0 1 ((hi w5 v0 1) + (1 : Int32))) fun w7 =>
  (FX5_partWith_74 w7 v0 v2)))) else
  (FX5_partWith_74 w v0 v2)
set_option maxHeartbeats 4000000 in
set_option maxRecDepth 100000 in
theorem rX5_partWith_49 {ar : Nat → Nat → Nat} {c0 : Nat → Nat} {sz : Nat} {r : Int32} {w' : HS}   {g : PH} {w : HS} {v0 : Nat} {v2 : Int32} (h0 : c0 v0 = 5) (P : Rel ar c0 sz g w) (hF : FX5_partWith_49  w v0 v2 = some (r, w')) : GR ar c0 sz r w' (fX5_partWith_49  g v0 v2) := by
  unfold FX5_partWith_49 at hF
  unfold fX5_partWith_49
  refine GR.bind (P.rI (k := 1) h0 (by decide) (by decide) (by decide)) ?_
  by_cases c1 : v2 = (hi w v0 1)
  · replace hF := ite_t c1 hF
    refine GR.t c1 ?_
    refine GR.bind (P.getRa (k := 3) h0 (by decide) (by decide) (by decide)) ?_
    replace hF := okb_some hF
    obtain ⟨h2, hF⟩ := hF
    replace hF := bnd_e hF
    obtain ⟨w5, e6, hF⟩ := hF
    obtain ⟨g3, e4, P⟩ := P.sI (k := 3) (kd := 0) (j := v2) h0 (by decide) (by decide) (by decide) (by decide) h2 rfl e6
    refine GR.bind e4 ?_
    refine GR.bind (P.rI (k := 1) h0 (by decide) (by decide) (by decide)) ?_
    replace hF := bnd_e hF
    obtain ⟨w7, e8, hF⟩ := hF
    obtain ⟨g9, e10, P⟩ := P.putI (k := 1) h0 (by decide) (by decide) (by decide) e8
    refine GR.bind e10 ?_
    exact rX5_partWith_74  h0 P hF
  replace hF := ite_f c1 hF
  refine GR.f c1 ?_
  exact rX5_partWith_74  h0 P hF
def FX5_partWith_23  : Nat → HS → Nat → Int32 → Option (Int32 × HS)
  | 0, _, _, _ => none
  | n + 1, w, v0, v2 =>
  if (hi w v0 1) ≤ v2 then (FX5_partWith_49 w v0 v2) else
  ((FX5_isAlike w v0 v2 (hi w v0 1)).bind fun q2 =>
  (if q2.1 = 0 then (FX5_partWith_23 n q2.2 v0 (v2 + (1 : Int32))) else
  (FX5_partWith_49 q2.2 v0 v2)))
set_option maxHeartbeats 4000000 in
set_option maxRecDepth 100000 in
theorem rX5_partWith_23 {ar : Nat → Nat → Nat} {c0 : Nat → Nat} {sz : Nat} {r : Int32} {w' : HS}   : ∀ (n : Nat) (g : PH) (w : HS) (v0 : Nat) (v2 : Int32), c0 v0 = 5 → Rel ar c0 sz g w → FX5_partWith_23  n w v0 v2 = some (r, w') → GR ar c0 sz r w' (fX5_partWith_23  n g v0 v2) := by
  intro n
  induction n with
  | zero =>
    intro g w v0 v2 h0 P hF
    rw [FX5_partWith_23] at hF
    cases hF
  | succ n ih =>
    intro g w v0 v2 h0 P hF
    rw [FX5_partWith_23] at hF
    rw [fX5_partWith_23]
    refine GR.bind (P.rI (k := 1) h0 (by decide) (by decide) (by decide)) ?_
    by_cases c1 : (hi w v0 1) ≤ v2
    · replace hF := ite_t c1 hF
      refine GR.t c1 ?_
      exact rX5_partWith_49  h0 P hF
    replace hF := ite_f c1 hF
    refine GR.f c1 ?_
    refine GR.bind (P.rI (k := 1) h0 (by decide) (by decide) (by decide)) ?_
    replace hF := ob_some hF
    obtain ⟨q2, h3, hF⟩ := hF
    obtain ⟨g4, e5, P⟩ := rX5_isAlike (r := q2.1) (w' := q2.2) P h3
    refine GR.bind e5 ?_
    by_cases c6 : q2.1 = 0
    · replace hF := ite_t c6 hF
      refine GR.t c6 ?_
      exact ih _ _ _ _ h0 P hF
    replace hF := ite_f c6 hF
    refine GR.f c6 ?_
    exact rX5_partWith_49  h0 P hF
def FX5_partWith (w : HS) (a0 : Nat) (a1 : Nat) : Option (Int32 × HS) :=
  okb (hc w a0 == 5) (if (hi w a0 1) < (240 : Int32) then ((FX5_describe w a0 a1 (hi w a0 1)).bind fun q2 =>
  (FX5_partWith_23 FUEL q2.2 a0 (0 : Int32))) else
  (some ((0 : Int32), w)))
set_option maxHeartbeats 4000000 in
set_option maxRecDepth 100000 in
theorem rX5_partWith {ar : Nat → Nat → Nat} {c0 : Nat → Nat} {sz : Nat} {g : PH} {w w' : HS} {a0 : Nat} {a1 : Nat} {r : Int32} (P : Rel ar c0 sz g w) (hF : FX5_partWith w a0 a1 = some (r, w')) : GR ar c0 sz r w' (fX5_partWith g a0 a1) := by
  unfold FX5_partWith at hF
  unfold fX5_partWith
  replace hF := okb_some hF
  obtain ⟨h0, hF⟩ := hF
  replace h0 := P.cls h0
  refine GR.ok (P.rO h0 (by decide)) ?_
  refine GR.bind (P.rI (k := 1) h0 (by decide) (by decide) (by decide)) ?_
  by_cases c1 : (hi w a0 1) < (240 : Int32)
  · replace hF := ite_t c1 hF
    refine GR.t c1 ?_
    refine GR.bind (P.rI (k := 1) h0 (by decide) (by decide) (by decide)) ?_
    replace hF := ob_some hF
    obtain ⟨q2, h3, hF⟩ := hF
    obtain ⟨g4, e5, P⟩ := rX5_describe (r := q2.1) (w' := q2.2) P h3
    refine GR.bind e5 ?_
    exact rX5_partWith_23  _ _ _ _ _ h0 P hF
  replace hF := ite_f c1 hF
  refine GR.f c1 ?_
  obtain ⟨f1, f2⟩ := finW hF
  subst f1
  subst f2
  exact GR.ret P
