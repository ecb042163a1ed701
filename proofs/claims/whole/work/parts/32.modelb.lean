def FX9_wayHere_94 (k7 : HS → Nat → Int32 → Option (Int32 × HS)) (w : HS) (v0 : Nat) (v1 : Int32) : Option (Int32 × HS) :=
  k7 w v0 (v1 + (1 : Int32))
set_option maxHeartbeats 4000000 in
set_option maxRecDepth 100000 in
theorem rX9_wayHere_94 {ar : Nat → Nat → Nat} {c0 : Nat → Nat} {sz : Nat} {r : Int32} {w' : HS} {k7 : HS → Nat → Int32 → Option (Int32 × HS)} {j7 : PH → Nat → Int32 → Option (Int32 × PH)} (hk7 : ∀ (g : PH) (w : HS) (v0 : Nat) (v1 : Int32), c0 v0 = 9 → Rel ar c0 sz g w → k7 w v0 v1 = some (r, w') → GR ar c0 sz r w' (j7 g v0 v1)) {g : PH} {w : HS} {v0 : Nat} {v1 : Int32} (h0 : c0 v0 = 9) (P : Rel ar c0 sz g w) (hF : FX9_wayHere_94 k7 w v0 v1 = some (r, w')) : GR ar c0 sz r w' (fX9_wayHere_94 j7 g v0 v1) := by
  unfold FX9_wayHere_94 at hF
  unfold fX9_wayHere_94
  exact hk7 _ _ _ _ h0 P hF
def FX9_wayHere_56 (k7 : HS → Nat → Int32 → Option (Int32 × HS)) (w : HS) (v0 : Nat) (v1 : Int32) (v2 : Int32) : Option (Int32 × HS) :=
  okb (inb (((5 : Int32) * v1) + v2) 15) (if (ha w v0 12 (((5 : Int32) * v1) + v2).toNatClampNeg) = 0 then ((FX9_byteAt w v0 ((hi w v0 2) + v2)).bind fun q3 =>
  ((FX9_isIn q3.2 q3.1.toInt64 (97 : Int64) (122 : Int64)).bind fun q7 =>
  (if q7.1 = 0 then (some (v1, q7.2)) else
  (FX9_wayHere_94 (k7) q7.2 v0 v1)))) else
  (FX9_wayHere_94 (k7) w v0 v1))
set_option maxHeartbeats 4000000 in
set_option maxRecDepth 100000 in
theorem rX9_wayHere_56 {ar : Nat → Nat → Nat} {c0 : Nat → Nat} {sz : Nat} {r : Int32} {w' : HS} {k7 : HS → Nat → Int32 → Option (Int32 × HS)} {j7 : PH → Nat → Int32 → Option (Int32 × PH)} (hk7 : ∀ (g : PH) (w : HS) (v0 : Nat) (v1 : Int32), c0 v0 = 9 → Rel ar c0 sz g w → k7 w v0 v1 = some (r, w') → GR ar c0 sz r w' (j7 g v0 v1)) {g : PH} {w : HS} {v0 : Nat} {v1 : Int32} {v2 : Int32} (h0 : c0 v0 = 9) (P : Rel ar c0 sz g w) (hF : FX9_wayHere_56 k7 w v0 v1 v2 = some (r, w')) : GR ar c0 sz r w' (fX9_wayHere_56 j7 g v0 v1 v2) := by
  unfold FX9_wayHere_56 at hF
  unfold fX9_wayHere_56
  refine GR.bind (P.getRa (k := 12) h0 (by decide) (by decide) (by decide)) ?_
  replace hF := okb_some hF
  obtain ⟨h1, hF⟩ := hF
  refine GR.bind (P.dI (k := 12) (n := (((5 : Int32) * v1) + v2).toNatClampNeg) h0 (by decide) (by decide) (by decide) (by decide) h1 rfl) ?_
  by_cases c2 : (ha w v0 12 (((5 : Int32) * v1) + v2).toNatClampNeg) = 0
  · replace hF := ite_t c2 hF
    refine GR.t c2 ?_
    refine GR.bind (P.rI (k := 2) h0 (by decide) (by decide) (by decide)) ?_
    replace hF := ob_some hF
    obtain ⟨q3, h4, hF⟩ := hF
    obtain ⟨g5, e6, P⟩ := rX9_byteAt (r := q3.1) (w' := q3.2) P h4
    refine GR.bind e6 ?_
    replace hF := ob_some hF
    obtain ⟨q7, h8, hF⟩ := hF
    obtain ⟨g9, e10, P⟩ := rX9_isIn (r := q7.1) (w' := q7.2) P h8
    refine GR.bind e10 ?_
    by_cases c11 : q7.1 = 0
    · replace hF := ite_t c11 hF
      refine GR.t c11 ?_
      obtain ⟨f1, f2⟩ := finW hF
      subst f1
      subst f2
      exact GR.ret P
    replace hF := ite_f c11 hF
    refine GR.f c11 ?_
    exact rX9_wayHere_94 hk7 h0 P hF
  replace hF := ite_f c2 hF
  refine GR.f c2 ?_
  exact rX9_wayHere_94 hk7 h0 P hF
def FX9_wayHere_14 (k7 : HS → Nat → Int32 → Option (Int32 × HS)) : Nat → HS → Nat → Int32 → Int32 → Option (Int32 × HS)
  | 0, _, _, _, _ => none
  | n + 1, w, v0, v1, v2 =>
  okb (inb (((5 : Int32) * v1) + v2) 15) (if (ha w v0 12 (((5 : Int32) * v1) + v2).toNatClampNeg) = 0 then (FX9_wayHere_56 (k7) w v0 v1 v2) else
  ((FX9_byteAt w v0 ((hi w v0 2) + v2)).bind fun q3 =>
  (okb (inb (((5 : Int32) * v1) + v2) 15) (if q3.1 = (ha q3.2 v0 12 (((5 : Int32) * v1) + v2).toNatClampNeg) then (FX9_wayHere_14 k7 n q3.2 v0 v1 (v2 + (1 : Int32))) else
  (FX9_wayHere_56 (k7) q3.2 v0 v1 v2)))))
set_option maxHeartbeats 4000000 in
set_option maxRecDepth 100000 in
theorem rX9_wayHere_14 {ar : Nat → Nat → Nat} {c0 : Nat → Nat} {sz : Nat} {r : Int32} {w' : HS} {k7 : HS → Nat → Int32 → Option (Int32 × HS)} {j7 : PH → Nat → Int32 → Option (Int32 × PH)} (hk7 : ∀ (g : PH) (w : HS) (v0 : Nat) (v1 : Int32), c0 v0 = 9 → Rel ar c0 sz g w → k7 w v0 v1 = some (r, w') → GR ar c0 sz r w' (j7 g v0 v1)) : ∀ (n : Nat) (g : PH) (w : HS) (v0 : Nat) (v1 : Int32) (v2 : Int32), c0 v0 = 9 → Rel ar c0 sz g w → FX9_wayHere_14 k7 n w v0 v1 v2 = some (r, w') → GR ar c0 sz r w' (fX9_wayHere_14 j7 n g v0 v1 v2) := by
  intro n
  induction n with
  | zero =>
    intro g w v0 v1 v2 h0 P hF
    rw [FX9_wayHere_14] at hF
    cases hF
  | succ n ih =>
    intro g w v0 v1 v2 h0 P hF
    rw [FX9_wayHere_14] at hF
    rw [fX9_wayHere_14]
    refine GR.bind (P.getRa (k := 12) h0 (by decide) (by decide) (by decide)) ?_
    replace hF := okb_some hF
    obtain ⟨h1, hF⟩ := hF
    refine GR.bind (P.dI (k := 12) (n := (((5 : Int32) * v1) + v2).toNatClampNeg) h0 (by decide) (by decide) (by decide) (by decide) h1 rfl) ?_
    by_cases c2 : (ha w v0 12 (((5 : Int32) * v1) + v2).toNatClampNeg) = 0
    · replace hF := ite_t c2 hF
      refine GR.t c2 ?_
      exact rX9_wayHere_56 hk7 h0 P hF
    replace hF := ite_f c2 hF
    refine GR.f c2 ?_
    refine GR.bind (P.rI (k := 2) h0 (by decide) (by decide) (by decide)) ?_
    replace hF := ob_some hF
    obtain ⟨q3, h4, hF⟩ := hF
    obtain ⟨g5, e6, P⟩ := rX9_byteAt (r := q3.1) (w' := q3.2) P h4
    refine GR.bind e6 ?_
    refine GR.bind (P.getRa (k := 12) h0 (by decide) (by decide) (by decide)) ?_
    replace hF := okb_some hF
    obtain ⟨h7, hF⟩ := hF
    refine GR.bind (P.dI (k := 12) (n := (((5 : Int32) * v1) + v2).toNatClampNeg) h0 (by decide) (by decide) (by decide) (by decide) h7 rfl) ?_
    by_cases c8 : q3.1 = (ha q3.2 v0 12 (((5 : Int32) * v1) + v2).toNatClampNeg)
    · replace hF := ite_t c8 hF
      refine GR.t c8 ?_
      exact ih _ _ _ _ _ h0 P hF
    replace hF := ite_f c8 hF
    refine GR.f c8 ?_
    exact rX9_wayHere_56 hk7 h0 P hF
def FX9_wayHere_7  : Nat → HS → Nat → Int32 → Option (Int32 × HS)
  | 0, _, _, _ => none
  | n + 1, w, v0, v1 =>
  if (3 : Int32) ≤ v1 then (some ((-1 : Int32), w)) else
  (FX9_wayHere_14 (FX9_wayHere_7 n) FUEL w v0 v1 (0 : Int32))
set_option maxHeartbeats 4000000 in
set_option maxRecDepth 100000 in
theorem rX9_wayHere_7 {ar : Nat → Nat → Nat} {c0 : Nat → Nat} {sz : Nat} {r : Int32} {w' : HS}   : ∀ (n : Nat) (g : PH) (w : HS) (v0 : Nat) (v1 : Int32), c0 v0 = 9 → Rel ar c0 sz g w → FX9_wayHere_7  n w v0 v1 = some (r, w') → GR ar c0 sz r w' (fX9_wayHere_7  n g v0 v1) := by
  intro n
  induction n with
  | zero =>
    intro g w v0 v1 h0 P hF
    rw [FX9_wayHere_7] at hF
    cases hF
  | succ n ih =>
    intro g w v0 v1 h0 P hF
    rw [FX9_wayHere_7] at hF
    rw [fX9_wayHere_7]
    by_cases c1 : (3 : Int32) ≤ v1
    · replace hF := ite_t c1 hF
      refine GR.t c1 ?_
      obtain ⟨f1, f2⟩ := finW hF
      subst f1
      subst f2
      exact GR.ret P
    replace hF := ite_f c1 hF
    refine GR.f c1 ?_
    exact rX9_wayHere_14 ih _ _ _ _ _ _ h0 P hF
def FX9_wayHere (w : HS) (a0 : Nat) : Option (Int32 × HS) :=
  okb (hc w a0 == 9) ((FX9_next w a0).bind fun q1 =>
  (FX9_wayHere_7 FUEL q1.2 a0 (0 : Int32)))
set_option maxHeartbeats 4000000 in
set_option maxRecDepth 100000 in
theorem rX9_wayHere {ar : Nat → Nat → Nat} {c0 : Nat → Nat} {sz : Nat} {g : PH} {w w' : HS} {a0 : Nat} {r : Int32} (P : Rel ar c0 sz g w) (hF : FX9_wayHere w a0 = some (r, w')) : GR ar c0 sz r w' (fX9_wayHere g a0) := by
  unfold FX9_wayHere at hF
  unfold fX9_wayHere
  replace hF := okb_some hF
  obtain ⟨h0, hF⟩ := hF
  replace h0 := P.cls h0
  refine GR.ok (P.rO h0 (by decide)) ?_
  replace hF := ob_some hF
  obtain ⟨q1, h2, hF⟩ := hF
  obtain ⟨g3, e4, P⟩ := rX9_next (r := q1.1) (w' := q1.2) P h2
  refine GR.bind e4 ?_
  exact rX9_wayHere_7  _ _ _ _ _ h0 P hF
def FX9_readsOp_108  (w : HS) (v0 : Nat) (v1 : Int32) (v2 : Int32) (v3 : Int32) (s0 : Int32) (s1 : Nat) : Option (Int32 × HS) :=
  okb (hc w s1 == 9) (bnd (setI w s1 13 s0) fun w2 =>
  (if v3 = (119 : Int32) then (okb (inb (((((64 : Int32) * (hi w2 v0 11)) + ((8 : Int32) * v1)) + (2 : Int32)) + v2) 448) (bnd (setA w2 v0 8 (((((64 : Int32) * (hi w2 v0 11)) + ((8 : Int32) * v1)) + (2 : Int32)) + v2).toNatClampNeg ((2 : Int32) + (hi w2 v0 4))) fun w10 =>
  (some ((1 : Int32), w10)))) else
  (okb (inb (((((64 : Int32) * (hi w2 v0 11)) + ((8 : Int32) * v1)) + (2 : Int32)) + v2) 448) (bnd (setA w2 v0 8 (((((64 : Int32) * (hi w2 v0 11)) + ((8 : Int32) * v1)) + (2 : Int32)) + v2).toNatClampNeg ((0 : Int32) + (hi w2 v0 4))) fun w15 =>
  (some ((1 : Int32), w15))))))
set_option maxHeartbeats 4000000 in
set_option maxRecDepth 100000 in
theorem rX9_readsOp_108 {ar : Nat → Nat → Nat} {c0 : Nat → Nat} {sz : Nat} {r : Int32} {w' : HS}   {g : PH} {w : HS} {v0 : Nat} {v1 : Int32} {v2 : Int32} {v3 : Int32} {s0 : Int32} {s1 : Nat} (h0 : c0 v0 = 9) (P : Rel ar c0 sz g w) (hF : FX9_readsOp_108  w v0 v1 v2 v3 s0 s1 = some (r, w')) : GR ar c0 sz r w' (fX9_readsOp_108  g v0 v1 v2 v3 s0 s1) := by
  unfold FX9_readsOp_108 at hF
  unfold fX9_readsOp_108
  replace hF := okb_some hF
  obtain ⟨h1, hF⟩ := hF
  replace h1 := P.cls h1
  replace hF := bnd_e hF
  obtain ⟨w2, e3, hF⟩ := hF
  obtain ⟨g4, e5, P⟩ := P.putI (k := 13) h1 (by decide) (by decide) (by decide) e3
  refine GR.bind e5 ?_
  refine GR.bind (P.getRa (k := 8) h0 (by decide) (by decide) (by decide)) ?_
  refine GR.bind (P.rI (k := 11) h0 (by decide) (by decide) (by decide)) ?_
  by_cases c6 : v3 = (119 : Int32)
  · replace hF := ite_t c6 hF
    refine GR.t c6 ?_
    refine GR.bind (P.rI (k := 4) h0 (by decide) (by decide) (by decide)) ?_
    replace hF := okb_some hF
    obtain ⟨h7, hF⟩ := hF
    replace hF := bnd_e hF
    obtain ⟨w10, e11, hF⟩ := hF
    obtain ⟨g8, e9, P⟩ := P.sI (k := 8) (kd := 0) (j := (((((64 : Int32) * (hi w2 v0 11)) + ((8 : Int32) * v1)) + (2 : Int32)) + v2)) h0 (by decide) (by decide) (by decide) (by decide) h7 rfl e11
    refine GR.bind e9 ?_
    obtain ⟨f1, f2⟩ := finW hF
    subst f1
    subst f2
    exact GR.ret P
  replace hF := ite_f c6 hF
  refine GR.f c6 ?_
  refine GR.bind (P.rI (k := 4) h0 (by decide) (by decide) (by decide)) ?_
  replace hF := okb_some hF
  obtain ⟨h12, hF⟩ := hF
  replace hF := bnd_e hF
  obtain ⟨w15, e16, hF⟩ := hF
  obtain ⟨g13, e14, P⟩ := P.sI (k := 8) (kd := 0) (j := (((((64 : Int32) * (hi w2 v0 11)) + ((8 : Int32) * v1)) + (2 : Int32)) + v2)) h0 (by decide) (by decide) (by decide) (by decide) h12 rfl e16
  refine GR.bind e14 ?_
  obtain ⟨f1, f2⟩ := finW hF
  subst f1
  subst f2
  exact GR.ret P
def FX9_readsOp_90  (w : HS) (v0 : Nat) (v1 : Int32) (v2 : Int32) (v3 : Int32) : Option (Int32 × HS) :=
  if v3 = (119 : Int32) then (FX9_readsOp_108 w v0 v1 v2 v3 (hi w v0 4) v0) else
  (FX9_readsOp_108 w v0 v1 v2 v3 (hi w v0 13) v0)
set_option maxHeartbeats 4000000 in
set_option maxRecDepth 100000 in
theorem rX9_readsOp_90 {ar : Nat → Nat → Nat} {c0 : Nat → Nat} {sz : Nat} {r : Int32} {w' : HS}   {g : PH} {w : HS} {v0 : Nat} {v1 : Int32} {v2 : Int32} {v3 : Int32} (h0 : c0 v0 = 9) (P : Rel ar c0 sz g w) (hF : FX9_readsOp_90  w v0 v1 v2 v3 = some (r, w')) : GR ar c0 sz r w' (fX9_readsOp_90  g v0 v1 v2 v3) := by
  unfold FX9_readsOp_90 at hF
  unfold fX9_readsOp_90
  by_cases c1 : v3 = (119 : Int32)
  · replace hF := ite_t c1 hF
    refine GR.t c1 ?_
    refine GR.bind (P.rI (k := 4) h0 (by decide) (by decide) (by decide)) ?_
    exact rX9_readsOp_108  h0 P hF
  replace hF := ite_f c1 hF
  refine GR.f c1 ?_
  refine GR.bind (P.rI (k := 13) h0 (by decide) (by decide) (by decide)) ?_
  exact rX9_readsOp_108  h0 P hF
def FX9_readsOp_31  (w : HS) (v0 : Nat) (v1 : Int32) (v2 : Int32) (v3 : Int32) (v4 : Int32) : Option (Int32 × HS) :=
  if v2 = (6 : Int32) then ((FX9_fails w v0 (3 : Int32) v4).bind fun q2 =>
  (okb (vp_nar .boolean q2.1 == q2.1) (some (q2.1, q2.2)))) else
  (bnd (setI w v0 2 ((hi w v0 2) + (1 : Int32))) fun w7 =>
  ((FX9_readsDigit w7 v0 (0 : Int32)).bind fun q11 =>
  (if q11.1 = 0 then (some ((0 : Int32), q11.2)) else
  (if v3 = (114 : Int32) then (if (hi q11.2 v0 4) = (hi q11.2 v0 13) then (FX9_readsOp_90 q11.2 v0 v1 v2 v3) else
  ((FX9_fails q11.2 v0 (4 : Int32) v4).bind fun q18 =>
  (okb (vp_nar .boolean q18.1 == q18.1) (some (q18.1, q18.2))))) else
  (FX9_readsOp_90 q11.2 v0 v1 v2 v3)))))
set_option maxHeartbeats 4000000 in
set_option maxRecDepth 100000 in
theorem rX9_readsOp_31 {ar : Nat → Nat → Nat} {c0 : Nat → Nat} {sz : Nat} {r : Int32} {w' : HS}   {g : PH} {w : HS} {v0 : Nat} {v1 : Int32} {v2 : Int32} {v3 : Int32} {v4 : Int32} (h0 : c0 v0 = 9) (P : Rel ar c0 sz g w) (hF : FX9_readsOp_31  w v0 v1 v2 v3 v4 = some (r, w')) : GR ar c0 sz r w' (fX9_readsOp_31  g v0 v1 v2 v3 v4) := by
  unfold FX9_readsOp_31 at hF
  unfold fX9_readsOp_31
  by_cases c1 : v2 = (6 : Int32)
  · replace hF := ite_t c1 hF
    refine GR.t c1 ?_
    replace hF := ob_some hF
    obtain ⟨q2, h3, hF⟩ := hF
    obtain ⟨g4, e5, P⟩ := rX9_fails (r := q2.1) (w' := q2.2) P h3
    refine GR.bind e5 ?_
    replace hF := okb_some hF
    obtain ⟨h6, hF⟩ := hF
    refine GR.ok h6 ?_
    obtain ⟨f1, f2⟩ := finW hF
    subst f1
    subst f2
    exact GR.ret P
  replace hF := ite_f c1 hF
  refine GR.f c1 ?_
  refine GR.bind (P.rI (k := 2) h0 (by decide) (by decide) (by decide)) ?_
  replace hF := bnd_e hF
  obtain ⟨w7, e8, hF⟩ := hF
  obtain ⟨g9, e10, P⟩ := P.putI (k := 2) h0 (by decide) (by decide) (by decide) e8
  refine GR.bind e10 ?_
  replace hF := ob_some hF
  obtain ⟨q11, h12, hF⟩ := hF
  obtain ⟨g13, e14, P⟩ := rX9_readsDigit (r := q11.1) (w' := q11.2) P h12
  refine GR.bind e14 ?_
  by_cases c15 : q11.1 = 0
  · replace hF := ite_t c15 hF
    refine GR.t c15 ?_
    obtain ⟨f1, f2⟩ := finW hF
    subst f1
    subst f2
    exact GR.ret P
  replace hF := ite_f c15 hF
  refine GR.f c15 ?_
  by_cases c16 : v3 = (114 : Int32)
  · replace hF := ite_t c16 hF
    refine GR.t c16 ?_
    refine GR.bind (P.rI (k := 4) h0 (by decide) (by decide) (by decide)) ?_
    refine GR.bind (P.rI (k := 13) h0 (by decide) (by decide) (by decide)) ?_
    by_cases c17 : (hi q11.2 v0 4) = (hi q11.2 v0 13)
    · replace hF := ite_t c17 hF
      refine GR.t c17 ?_
      exact rX9_readsOp_90  h0 P hF
    replace hF := ite_f c17 hF
    refine GR.f c17 ?_
    replace hF := ob_some hF
    obtain ⟨q18, h19, hF⟩ := hF
    obtain ⟨g20, e21, P⟩ := rX9_fails (r := q18.1) (w' := q18.2) P h19
    refine GR.bind e21 ?_
    replace hF := okb_some hF
    obtain ⟨h22, hF⟩ := hF
    refine GR.ok h22 ?_
    obtain ⟨f1, f2⟩ := finW hF
    subst f1
    subst f2
    exact GR.ret P
  replace hF := ite_f c16 hF
  refine GR.f c16 ?_
  exact rX9_readsOp_90  h0 P hF
def FX9_readsOp (w : HS) (a0 : Nat) (a1 : Int32) (a2 : Int32) : Option (Int32 × HS) :=
  okb (hc w a0 == 9) ((FX9_next w a0).bind fun q1 =>
  (if q1.1 = (114 : Int32) then (FX9_readsOp_31 q1.2 a0 a1 a2 q1.1 (hi q1.2 a0 2)) else
  (if q1.1 = (119 : Int32) then (FX9_readsOp_31 q1.2 a0 a1 a2 q1.1 (hi q1.2 a0 2)) else
  ((FX9_fails q1.2 a0 (1 : Int32) (hi q1.2 a0 2)).bind fun q7 =>
  (okb (vp_nar .boolean q7.1 == q7.1) (some (q7.1, q7.2)))))))
set_option maxHeartbeats 4000000 in
set_option maxRecDepth 100000 in
theorem rX9_readsOp {ar : Nat → Nat → Nat} {c0 : Nat → Nat} {sz : Nat} {g : PH} {w w' : HS} {a0 : Nat} {a1 : Int32} {a2 : Int32} {r : Int32} (P : Rel ar c0 sz g w) (hF : FX9_readsOp w a0 a1 a2 = some (r, w')) : GR ar c0 sz r w' (fX9_readsOp g a0 a1 a2) := by
  unfold FX9_readsOp at hF
  unfold fX9_readsOp
  replace hF := okb_some hF
  obtain ⟨h0, hF⟩ := hF
  replace h0 := P.cls h0
  refine GR.ok (P.rO h0 (by decide)) ?_
  replace hF := ob_some hF
  obtain ⟨q1, h2, hF⟩ := hF
  obtain ⟨g3, e4, P⟩ := rX9_next (r := q1.1) (w' := q1.2) P h2
  refine GR.bind e4 ?_
  refine GR.bind (P.rI (k := 2) h0 (by decide) (by decide) (by decide)) ?_
  by_cases c5 : q1.1 = (114 : Int32)
  · replace hF := ite_t c5 hF
    refine GR.t c5 ?_
    exact rX9_readsOp_31  h0 P hF
  replace hF := ite_f c5 hF
  refine GR.f c5 ?_
  by_cases c6 : q1.1 = (119 : Int32)
  · replace hF := ite_t c6 hF
    refine GR.t c6 ?_
    exact rX9_readsOp_31  h0 P hF
  replace hF := ite_f c6 hF
  refine GR.f c6 ?_
  replace hF := ob_some hF
  obtain ⟨q7, h8, hF⟩ := hF
  obtain ⟨g9, e10, P⟩ := rX9_fails (r := q7.1) (w' := q7.2) P h8
  refine GR.bind e10 ?_
  replace hF := okb_some hF
  obtain ⟨h11, hF⟩ := hF
  refine GR.ok h11 ?_
  obtain ⟨f1, f2⟩ := finW hF
  subst f1
  subst f2
  exact GR.ret P
def FX9_readsElement_38  (w : HS) (v0 : Nat) : Option (Int32 × HS) :=
  (FX9_fails w v0 (2 : Int32) (hi w v0 2)).bind fun q1 =>
  (okb (vp_nar .boolean q1.1 == q1.1) (some (q1.1, q1.2)))
set_option maxHeartbeats 4000000 in
set_option maxRecDepth 100000 in
theorem rX9_readsElement_38 {ar : Nat → Nat → Nat} {c0 : Nat → Nat} {sz : Nat} {r : Int32} {w' : HS}   {g : PH} {w : HS} {v0 : Nat} (h0 : c0 v0 = 9) (P : Rel ar c0 sz g w) (hF : FX9_readsElement_38  w v0 = some (r, w')) : GR ar c0 sz r w' (fX9_readsElement_38  g v0) := by
  unfold FX9_readsElement_38 at hF
  unfold fX9_readsElement_38
  refine GR.bind (P.rI (k := 2) h0 (by decide) (by decide) (by decide)) ?_
  replace hF := ob_some hF
  obtain ⟨q1, h2, hF⟩ := hF
  obtain ⟨g3, e4, P⟩ := rX9_fails (r := q1.1) (w' := q1.2) P h2
  refine GR.bind e4 ?_
  replace hF := okb_some hF
  obtain ⟨h5, hF⟩ := hF
  refine GR.ok h5 ?_
  obtain ⟨f1, f2⟩ := finW hF
  subst f1
  subst f2
  exact GR.ret P
def FX9_readsElement_114  : Nat → HS → Nat → Int32 → Int32 → Int32 → Option (Int32 × HS)
  | 0, _, _, _, _, _ => none
  | n + 1, w, v0, v1, v2, v3 =>
  (FX9_readsOp w v0 v1 v3).bind fun q1 =>
  (if q1.1 = 0 then (some ((0 : Int32), q1.2)) else
  ((FX9_takes q1.2 v0 (44 : Int32)).bind fun q6 =>
  (if q6.1 = 0 then (okb (inb (((64 : Int32) * (hi q6.2 v0 11)) + ((8 : Int32) * v1)) 448) (bnd (setA q6.2 v0 8 (((64 : Int32) * (hi q6.2 v0 11)) + ((8 : Int32) * v1)).toNatClampNeg v2) fun w14 =>
  (okb (inb ((((64 : Int32) * (hi w14 v0 11)) + ((8 : Int32) * v1)) + (1 : Int32)) 448) (bnd (setA w14 v0 8 ((((64 : Int32) * (hi w14 v0 11)) + ((8 : Int32) * v1)) + (1 : Int32)).toNatClampNeg (v3 + (1 : Int32))) fun w19 =>
  ((FX9_needs w19 v0 (41 : Int32)).bind fun q21 =>
  (okb (vp_nar .boolean q21.1 == q21.1) (some (q21.1, q21.2)))))))) else
  (FX9_readsElement_114 n q6.2 v0 v1 v2 (v3 + (1 : Int32))))))
set_option maxHeartbeats 4000000 in
set_option maxRecDepth 100000 in
theorem rX9_readsElement_114 {ar : Nat → Nat → Nat} {c0 : Nat → Nat} {sz : Nat} {r : Int32} {w' : HS}   : ∀ (n : Nat) (g : PH) (w : HS) (v0 : Nat) (v1 : Int32) (v2 : Int32) (v3 : Int32), c0 v0 = 9 → Rel ar c0 sz g w → FX9_readsElement_114  n w v0 v1 v2 v3 = some (r, w') → GR ar c0 sz r w' (fX9_readsElement_114  n g v0 v1 v2 v3) := by
  intro n
  induction n with
  | zero =>
    intro g w v0 v1 v2 v3 h0 P hF
    rw [FX9_readsElement_114] at hF
    cases hF
  | succ n ih =>
    intro g w v0 v1 v2 v3 h0 P hF
    rw [FX9_readsElement_114] at hF
    rw [fX9_readsElement_114]
    replace hF := ob_some hF
    obtain ⟨q1, h2, hF⟩ := hF
    obtain ⟨g3, e4, P⟩ := rX9_readsOp (r := q1.1) (w' := q1.2) P h2
    refine GR.bind e4 ?_
    by_cases c5 : q1.1 = 0
    · replace hF := ite_t c5 hF
      refine GR.t c5 ?_
      obtain ⟨f1, f2⟩ := finW hF
      subst f1
      subst f2
      exact GR.ret P
    replace hF := ite_f c5 hF
    refine GR.f c5 ?_
    replace hF := ob_some hF
    obtain ⟨q6, h7, hF⟩ := hF
    obtain ⟨g8, e9, P⟩ := rX9_takes (r := q6.1) (w' := q6.2) P h7
    refine GR.bind e9 ?_
    by_cases c10 : q6.1 = 0
    · replace hF := ite_t c10 hF
      refine GR.t c10 ?_
      refine GR.bind (P.getRa (k := 8) h0 (by decide) (by decide) (by decide)) ?_
      refine GR.bind (P.rI (k := 11) h0 (by decide) (by decide) (by decide)) ?_
      replace hF := okb_some hF
      obtain ⟨h11, hF⟩ := hF
      replace hF := bnd_e hF
      obtain ⟨w14, e15, hF⟩ := hF
      obtain ⟨g12, e13, P⟩ := P.sI (k := 8) (kd := 0) (j := (((64 : Int32) * (hi q6.2 v0 11)) + ((8 : Int32) * v1))) h0 (by decide) (by decide) (by decide) (by decide) h11 rfl e15
      refine GR.bind e13 ?_
      refine GR.bind (P.getRa (k := 8) h0 (by decide) (by decide) (by decide)) ?_
      refine GR.bind (P.rI (k := 11) h0 (by decide) (by decide) (by decide)) ?_
      replace hF := okb_some hF
      obtain ⟨h16, hF⟩ := hF
      replace hF := bnd_e hF
      obtain ⟨w19, e20, hF⟩ := hF
      obtain ⟨g17, e18, P⟩ := P.sI (k := 8) (kd := 0) (j := ((((64 : Int32) * (hi w14 v0 11)) + ((8 : Int32) * v1)) + (1 : Int32))) h0 (by decide) (by decide) (by decide) (by decide) h16 rfl e20
      refine GR.bind e18 ?_
      replace hF := ob_some hF
      obtain ⟨q21, h22, hF⟩ := hF
      obtain ⟨g23, e24, P⟩ := rX9_needs (r := q21.1) (w' := q21.2) P h22
      refine GR.bind e24 ?_
      replace hF := okb_some hF
      obtain ⟨h25, hF⟩ := hF
      refine GR.ok h25 ?_
      obtain ⟨f1, f2⟩ := finW hF
      subst f1
      subst f2
      exact GR.ret P
    replace hF := ite_f c10 hF
    refine GR.f c10 ?_
    exact ih _ _ _ _ _ _ h0 P hF
def FX9_readsElement_67  : Nat → HS → Nat → Int32 → Int32 → Option (Int32 × HS)
  | 0, _, _, _, _ => none
  | n + 1, w, v0, v1, v2 =>
  (FX9_byteAt w v0 (hi w v0 2)).bind fun q1 =>
  ((FX9_isIn q1.2 q1.1.toInt64 (97 : Int64) (122 : Int64)).bind fun q5 =>
  (if q5.1 = 0 then ((FX9_needs q5.2 v0 (40 : Int32)).bind fun q10 =>
  (if q10.1 = 0 then (some ((0 : Int32), q10.2)) else
  (FX9_readsElement_114 FUEL q10.2 v0 v1 v2 (0 : Int32)))) else
  (bnd (setI q5.2 v0 2 ((hi q5.2 v0 2) + (1 : Int32))) fun w15 =>
  (FX9_readsElement_67 n w15 v0 v1 v2))))
set_option maxHeartbeats 4000000 in
set_option maxRecDepth 100000 in
theorem rX9_readsElement_67 {ar : Nat → Nat → Nat} {c0 : Nat → Nat} {sz : Nat} {r : Int32} {w' : HS}   : ∀ (n : Nat) (g : PH) (w : HS) (v0 : Nat) (v1 : Int32) (v2 : Int32), c0 v0 = 9 → Rel ar c0 sz g w → FX9_readsElement_67  n w v0 v1 v2 = some (r, w') → GR ar c0 sz r w' (fX9_readsElement_67  n g v0 v1 v2) := by
  intro n
  induction n with
  | zero =>
    intro g w v0 v1 v2 h0 P hF
    rw [FX9_readsElement_67] at hF
    cases hF
  | succ n ih =>
    intro g w v0 v1 v2 h0 P hF
    rw [FX9_readsElement_67] at hF
    rw [fX9_readsElement_67]
    refine GR.bind (P.rI (k := 2) h0 (by decide) (by decide) (by decide)) ?_
    replace hF := ob_some hF
    obtain ⟨q1, h2, hF⟩ := hF
    obtain ⟨g3, e4, P⟩ := rX9_byteAt (r := q1.1) (w' := q1.2) P h2
    refine GR.bind e4 ?_
    replace hF := ob_some hF
    obtain ⟨q5, h6, hF⟩ := hF
    obtain ⟨g7, e8, P⟩ := rX9_isIn (r := q5.1) (w' := q5.2) P h6
    refine GR.bind e8 ?_
    by_cases c9 : q5.1 = 0
    · replace hF := ite_t c9 hF
      refine GR.t c9 ?_
      replace hF := ob_some hF
      obtain ⟨q10, h11, hF⟩ := hF
      obtain ⟨g12, e13, P⟩ := rX9_needs (r := q10.1) (w' := q10.2) P h11
      refine GR.bind e13 ?_
      by_cases c14 : q10.1 = 0
      · replace hF := ite_t c14 hF
        refine GR.t c14 ?_
        obtain ⟨f1, f2⟩ := finW hF
        subst f1
        subst f2
        exact GR.ret P
      replace hF := ite_f c14 hF
      refine GR.f c14 ?_
      exact rX9_readsElement_114  _ _ _ _ _ _ _ h0 P hF
    replace hF := ite_f c9 hF
    refine GR.f c9 ?_
    refine GR.bind (P.rI (k := 2) h0 (by decide) (by decide) (by decide)) ?_
    replace hF := bnd_e hF
    obtain ⟨w15, e16, hF⟩ := hF
    obtain ⟨g17, e18, P⟩ := P.putI (k := 2) h0 (by decide) (by decide) (by decide) e16
    refine GR.bind e18 ?_
    exact ih _ _ _ _ _ h0 P hF
def FX9_readsElement_63  (w : HS) (v0 : Nat) (v1 : Int32) (v2 : Int32) (s0 : Int32) (s1 : Int32) (s2 : Nat) : Option (Int32 × HS) :=
  okb (hc w s2 == 9) (bnd (setI w s2 14 (s1 + s0)) fun w2 =>
  (FX9_readsElement_67 FUEL w2 v0 v1 v2))
set_option maxHeartbeats 4000000 in
set_option maxRecDepth 100000 in
theorem rX9_readsElement_63 {ar : Nat → Nat → Nat} {c0 : Nat → Nat} {sz : Nat} {r : Int32} {w' : HS}   {g : PH} {w : HS} {v0 : Nat} {v1 : Int32} {v2 : Int32} {s0 : Int32} {s1 : Int32} {s2 : Nat} (h0 : c0 v0 = 9) (P : Rel ar c0 sz g w) (hF : FX9_readsElement_63  w v0 v1 v2 s0 s1 s2 = some (r, w')) : GR ar c0 sz r w' (fX9_readsElement_63  g v0 v1 v2 s0 s1 s2) := by
  unfold FX9_readsElement_63 at hF
  unfold fX9_readsElement_63
  replace hF := okb_some hF
  obtain ⟨h1, hF⟩ := hF
  replace h1 := P.cls h1
  replace hF := bnd_e hF
  obtain ⟨w2, e3, hF⟩ := hF
  obtain ⟨g4, e5, P⟩ := P.putI (k := 14) h1 (by decide) (by decide) (by decide) e3
  refine GR.bind e5 ?_
  exact rX9_readsElement_67  _ _ _ _ _ _ h0 P hF
def FX9_readsElement_48  (w : HS) (v0 : Nat) (v1 : Int32) (v2 : Int32) : Option (Int32 × HS) :=
  if v2 = (2 : Int32) then (FX9_readsElement_63 w v0 v1 v2 (1 : Int32) (hi w v0 14) v0) else
  (FX9_readsElement_63 w v0 v1 v2 (0 : Int32) (hi w v0 14) v0)
set_option maxHeartbeats 4000000 in
set_option maxRecDepth 100000 in
theorem rX9_readsElement_48 {ar : Nat → Nat → Nat} {c0 : Nat → Nat} {sz : Nat} {r : Int32} {w' : HS}   {g : PH} {w : HS} {v0 : Nat} {v1 : Int32} {v2 : Int32} (h0 : c0 v0 = 9) (P : Rel ar c0 sz g w) (hF : FX9_readsElement_48  w v0 v1 v2 = some (r, w')) : GR ar c0 sz r w' (fX9_readsElement_48  g v0 v1 v2) := by
  unfold FX9_readsElement_48 at hF
  unfold fX9_readsElement_48
  refine GR.bind (P.rI (k := 14) h0 (by decide) (by decide) (by decide)) ?_
  by_cases c1 : v2 = (2 : Int32)
  · replace hF := ite_t c1 hF
    refine GR.t c1 ?_
    exact rX9_readsElement_63  h0 P hF
  replace hF := ite_f c1 hF
  refine GR.f c1 ?_
  exact rX9_readsElement_63  h0 P hF
def FX9_readsElement (w : HS) (a0 : Nat) (a1 : Int32) : Option (Int32 × HS) :=
  okb (hc w a0 == 9) ((FX9_wayHere w a0).bind fun q1 =>
  (if 0 ≤ q1.1 then (if a1 = (8 : Int32) then (FX9_readsElement_38 q1.2 a0) else
  (if q1.1 = (2 : Int32) then (if (hi q1.2 a0 14) = (3 : Int32) then (FX9_readsElement_38 q1.2 a0) else
  (FX9_readsElement_48 q1.2 a0 a1 q1.1)) else
  (FX9_readsElement_48 q1.2 a0 a1 q1.1))) else
  ((FX9_fails q1.2 a0 (1 : Int32) (hi q1.2 a0 2)).bind fun q9 =>
  (okb (vp_nar .boolean q9.1 == q9.1) (some (q9.1, q9.2))))))
set_option maxHeartbeats 4000000 in
set_option maxRecDepth 100000 in
theorem rX9_readsElement {ar : Nat → Nat → Nat} {c0 : Nat → Nat} {sz : Nat} {g : PH} {w w' : HS} {a0 : Nat} {a1 : Int32} {r : Int32} (P : Rel ar c0 sz g w) (hF : FX9_readsElement w a0 a1 = some (r, w')) : GR ar c0 sz r w' (fX9_readsElement g a0 a1) := by
  unfold FX9_readsElement at hF
  unfold fX9_readsElement
  replace hF := okb_some hF
  obtain ⟨h0, hF⟩ := hF
  replace h0 := P.cls h0
  refine GR.ok (P.rO h0 (by decide)) ?_
  replace hF := ob_some hF
  obtain ⟨q1, h2, hF⟩ := hF
  obtain ⟨g3, e4, P⟩ := rX9_wayHere (r := q1.1) (w' := q1.2) P h2
  refine GR.bind e4 ?_
  by_cases c5 : 0 ≤ q1.1
  · replace hF := ite_t c5 hF
    refine GR.t c5 ?_
    by_cases c6 : a1 = (8 : Int32)
    · replace hF := ite_t c6 hF
      refine GR.t c6 ?_
      exact rX9_readsElement_38  h0 P hF
    replace hF := ite_f c6 hF
    refine GR.f c6 ?_
    by_cases c7 : q1.1 = (2 : Int32)
    · replace hF := ite_t c7 hF
      refine GR.t c7 ?_
      refine GR.bind (P.rI (k := 14) h0 (by decide) (by decide) (by decide)) ?_
      by_cases c8 : (hi q1.2 a0 14) = (3 : Int32)
      · replace hF := ite_t c8 hF
        refine GR.t c8 ?_
        exact rX9_readsElement_38  h0 P hF
      replace hF := ite_f c8 hF
      refine GR.f c8 ?_
      exact rX9_readsElement_48  h0 P hF
    replace hF := ite_f c7 hF
    refine GR.f c7 ?_
    exact rX9_readsElement_48  h0 P hF
  replace hF := ite_f c5 hF
  refine GR.f c5 ?_
  refine GR.bind (P.rI (k := 2) h0 (by decide) (by decide) (by decide)) ?_
  replace hF := ob_some hF
  obtain ⟨q9, h10, hF⟩ := hF
  obtain ⟨g11, e12, P⟩ := rX9_fails (r := q9.1) (w' := q9.2) P h10
  refine GR.bind e12 ?_
  replace hF := okb_some hF
  obtain ⟨h13, hF⟩ := hF
  refine GR.ok h13 ?_
  obtain ⟨f1, f2⟩ := finW hF
  subst f1
  subst f2
  exact GR.ret P
def FX9_readsMarch_17  : Nat → HS → Nat → Int32 → Option (Int32 × HS)
  | 0, _, _, _ => none
  | n + 1, w, v0, v1 =>
  (FX9_readsElement w v0 v1).bind fun q1 =>
  (if q1.1 = 0 then (some ((0 : Int32), q1.2)) else
  ((FX9_takes q1.2 v0 (59 : Int32)).bind fun q6 =>
  (if q6.1 = 0 then (okb (inb (hi q6.2 v0 11) 7) (bnd (setA q6.2 v0 9 (hi q6.2 v0 11).toNatClampNeg (v1 + (1 : Int32))) fun w14 =>
  (okb (inb (hi w14 v0 11) 7) (bnd (setA w14 v0 10 (hi w14 v0 11).toNatClampNeg (hi w14 v0 13)) fun w19 =>
  ((FX9_next w19 v0).bind fun q21 =>
  (if q21.1 = (-1 : Int32) then (some ((1 : Int32), q21.2)) else
  ((FX9_fails q21.2 v0 (1 : Int32) (hi q21.2 v0 2)).bind fun q26 =>
  (if q26.1 = 0 then (some ((0 : Int32), q26.2)) else
  (some ((1 : Int32), q26.2)))))))))) else
  (FX9_readsMarch_17 n q6.2 v0 (v1 + (1 : Int32))))))
set_option maxHeartbeats 4000000 in
set_option maxRecDepth 100000 in
theorem rX9_readsMarch_17 {ar : Nat → Nat → Nat} {c0 : Nat → Nat} {sz : Nat} {r : Int32} {w' : HS}   : ∀ (n : Nat) (g : PH) (w : HS) (v0 : Nat) (v1 : Int32), c0 v0 = 9 → Rel ar c0 sz g w → FX9_readsMarch_17  n w v0 v1 = some (r, w') → GR ar c0 sz r w' (fX9_readsMarch_17  n g v0 v1) := by
  intro n
  induction n with
  | zero =>
    intro g w v0 v1 h0 P hF
    rw [FX9_readsMarch_17] at hF
    cases hF
  | succ n ih =>
    intro g w v0 v1 h0 P hF
    rw [FX9_readsMarch_17] at hF
    rw [fX9_readsMarch_17]
    replace hF := ob_some hF
    obtain ⟨q1, h2, hF⟩ := hF
    obtain ⟨g3, e4, P⟩ := rX9_readsElement (r := q1.1) (w' := q1.2) P h2
    refine GR.bind e4 ?_
    by_cases c5 : q1.1 = 0
    · replace hF := ite_t c5 hF
      refine GR.t c5 ?_
      obtain ⟨f1, f2⟩ := finW hF
      subst f1
      subst f2
      exact GR.ret P
    replace hF := ite_f c5 hF
    refine GR.f c5 ?_
    replace hF := ob_some hF
    obtain ⟨q6, h7, hF⟩ := hF
    obtain ⟨g8, e9, P⟩ := rX9_takes (r := q6.1) (w' := q6.2) P h7
    refine GR.bind e9 ?_
    by_cases c10 : q6.1 = 0
    · replace hF := ite_t c10 hF
      refine GR.t c10 ?_
      refine GR.bind (P.getRa (k := 9) h0 (by decide) (by decide) (by decide)) ?_
      refine GR.bind (P.rI (k := 11) h0 (by decide) (by decide) (by decide)) ?_
      replace hF := okb_some hF
      obtain ⟨h11, hF⟩ := hF
      replace hF := bnd_e hF
      obtain ⟨w14, e15, hF⟩ := hF
      obtain ⟨g12, e13, P⟩ := P.sI (k := 9) (kd := 0) (j := (hi q6.2 v0 11)) h0 (by decide) (by decide) (by decide) (by decide) h11 rfl e15
      refine GR.bind e13 ?_
      refine GR.bind (P.getRa (k := 10) h0 (by decide) (by decide) (by decide)) ?_
      refine GR.bind (P.rI (k := 11) h0 (by decide) (by decide) (by decide)) ?_
      refine GR.bind (P.rI (k := 13) h0 (by decide) (by decide) (by decide)) ?_
      replace hF := okb_some hF
      obtain ⟨h16, hF⟩ := hF
      replace hF := bnd_e hF
      obtain ⟨w19, e20, hF⟩ := hF
      obtain ⟨g17, e18, P⟩ := P.sI (k := 10) (kd := 0) (j := (hi w14 v0 11)) h0 (by decide) (by decide) (by decide) (by decide) h16 rfl e20
      refine GR.bind e18 ?_
      replace hF := ob_some hF
      obtain ⟨q21, h22, hF⟩ := hF
      obtain ⟨g23, e24, P⟩ := rX9_next (r := q21.1) (w' := q21.2) P h22
      refine GR.bind e24 ?_
      by_cases c25 : q21.1 = (-1 : Int32)
      · replace hF := ite_t c25 hF
        refine GR.t c25 ?_
        obtain ⟨f1, f2⟩ := finW hF
        subst f1
        subst f2
        exact GR.ret P
      replace hF := ite_f c25 hF
      refine GR.f c25 ?_
      refine GR.bind (P.rI (k := 2) h0 (by decide) (by decide) (by decide)) ?_
      replace hF := ob_some hF
      obtain ⟨q26, h27, hF⟩ := hF
      obtain ⟨g28, e29, P⟩ := rX9_fails (r := q26.1) (w' := q26.2) P h27
      refine GR.bind e29 ?_
      by_cases c30 : q26.1 = 0
      · replace hF := ite_t c30 hF
        refine GR.t c30 ?_
        obtain ⟨f1, f2⟩ := finW hF
        subst f1
        subst f2
        exact GR.ret P
      replace hF := ite_f c30 hF
      refine GR.f c30 ?_
      obtain ⟨f1, f2⟩ := finW hF
      subst f1
      subst f2
      exact GR.ret P
    replace hF := ite_f c10 hF
    refine GR.f c10 ?_
    exact ih _ _ _ _ h0 P hF
def FX9_readsMarch (w : HS) (a0 : Nat) : Option (Int32 × HS) :=
  okb (hc w a0 == 9) (bnd (setI w a0 2 (0 : Int32)) fun w1 =>
  (bnd (setI w1 a0 13 (-1 : Int32)) fun w5 =>
  (bnd (setI w5 a0 14 (0 : Int32)) fun w9 =>
  (FX9_readsMarch_17 FUEL w9 a0 (0 : Int32)))))
set_option maxHeartbeats 4000000 in
set_option maxRecDepth 100000 in
theorem rX9_readsMarch {ar : Nat → Nat → Nat} {c0 : Nat → Nat} {sz : Nat} {g : PH} {w w' : HS} {a0 : Nat} {r : Int32} (P : Rel ar c0 sz g w) (hF : FX9_readsMarch w a0 = some (r, w')) : GR ar c0 sz r w' (fX9_readsMarch g a0) := by
  unfold FX9_readsMarch at hF
  unfold fX9_readsMarch
  replace hF := okb_some hF
  obtain ⟨h0, hF⟩ := hF
  replace h0 := P.cls h0
  refine GR.ok (P.rO h0 (by decide)) ?_
  replace hF := bnd_e hF
  obtain ⟨w1, e2, hF⟩ := hF
  obtain ⟨g3, e4, P⟩ := P.putI (k := 2) h0 (by decide) (by decide) (by decide) e2
  refine GR.bind e4 ?_
  replace hF := bnd_e hF
  obtain ⟨w5, e6, hF⟩ := hF
  obtain ⟨g7, e8, P⟩ := P.putI (k := 13) h0 (by decide) (by decide) (by decide) e6
  refine GR.bind e8 ?_
  replace hF := bnd_e hF
  obtain ⟨w9, e10, hF⟩ := hF
  obtain ⟨g11, e12, P⟩ := P.putI (k := 14) h0 (by decide) (by decide) (by decide) e10
  refine GR.bind e12 ?_
  exact rX9_readsMarch_17  _ _ _ _ _ h0 P hF
def FX9_march (w : HS) (a0 : Nat) : Option (Int32 × HS) :=
  okb (hc w a0 == 9) (if (hi w a0 11) = (6 : Int32) then (some ((-1 : Int32), w)) else
  ((FX9_readsMarch w a0).bind fun q2 =>
  (bnd (setI q2.2 a0 1 (0 : Int32)) fun w6 =>
  (if q2.1 = 0 then (some (((-2 : Int32) - (hi w6 a0 3)), w6)) else
  (bnd (setI w6 a0 11 ((hi w6 a0 11) + (1 : Int32))) fun w11 =>
  (some (((hi w11 a0 11) - (1 : Int32)), w11)))))))
set_option maxHeartbeats 4000000 in
set_option maxRecDepth 100000 in
theorem rX9_march {ar : Nat → Nat → Nat} {c0 : Nat → Nat} {sz : Nat} {g : PH} {w w' : HS} {a0 : Nat} {r : Int32} (P : Rel ar c0 sz g w) (hF : FX9_march w a0 = some (r, w')) : GR ar c0 sz r w' (fX9_march g a0) := by
  unfold FX9_march at hF
  unfold fX9_march
  replace hF := okb_some hF
  obtain ⟨h0, hF⟩ := hF
  replace h0 := P.cls h0
  refine GR.ok (P.rO h0 (by decide)) ?_
  refine GR.bind (P.rI (k := 11) h0 (by decide) (by decide) (by decide)) ?_
  by_cases c1 : (hi w a0 11) = (6 : Int32)
  · replace hF := ite_t c1 hF
    refine GR.t c1 ?_
    obtain ⟨f1, f2⟩ := finW hF
    subst f1
    subst f2
    exact GR.ret P
  replace hF := ite_f c1 hF
  refine GR.f c1 ?_
  replace hF := ob_some hF
  obtain ⟨q2, h3, hF⟩ := hF
  obtain ⟨g4, e5, P⟩ := rX9_readsMarch (r := q2.1) (w' := q2.2) P h3
  refine GR.bind e5 ?_
  replace hF := bnd_e hF
  obtain ⟨w6, e7, hF⟩ := hF
  obtain ⟨g8, e9, P⟩ := P.putI (k := 1) h0 (by decide) (by decide) (by decide) e7
  refine GR.bind e9 ?_
  by_cases c10 : q2.1 = 0
  · replace hF := ite_t c10 hF
    refine GR.t c10 ?_
    refine GR.bind (P.rI (k := 3) h0 (by decide) (by decide) (by decide)) ?_
    obtain ⟨f1, f2⟩ := finW hF
    subst f1
    subst f2
    exact GR.ret P
  replace hF := ite_f c10 hF
  refine GR.f c10 ?_
  refine GR.bind (P.rI (k := 11) h0 (by decide) (by decide) (by decide)) ?_
  replace hF := bnd_e hF
  obtain ⟨w11, e12, hF⟩ := hF
  obtain ⟨g13, e14, P⟩ := P.putI (k := 11) h0 (by decide) (by decide) (by decide) e12
  refine GR.bind e14 ?_
  refine GR.bind (P.rI (k := 11) h0 (by decide) (by decide) (by decide)) ?_
  obtain ⟨f1, f2⟩ := finW hF
  subst f1
  subst f2
  exact GR.ret P
def FX9_isKind (w : HS) (a0 : Nat) (a1 : Int32) : Option (Int32 × HS) :=
  okb (hc w a0 == 9) (if a1 < 0 then (some ((0 : Int32), w)) else
  (if (hi w a0 7) ≤ a1 then (some ((0 : Int32), w)) else
  (some ((1 : Int32), w))))
set_option maxHeartbeats 4000000 in
set_option maxRecDepth 100000 in
theorem rX9_isKind {ar : Nat → Nat → Nat} {c0 : Nat → Nat} {sz : Nat} {g : PH} {w w' : HS} {a0 : Nat} {a1 : Int32} {r : Int32} (P : Rel ar c0 sz g w) (hF : FX9_isKind w a0 a1 = some (r, w')) : GR ar c0 sz r w' (fX9_isKind g a0 a1) := by
  unfold FX9_isKind at hF
  unfold fX9_isKind
  replace hF := okb_some hF
  obtain ⟨h0, hF⟩ := hF
  replace h0 := P.cls h0
  refine GR.ok (P.rO h0 (by decide)) ?_
  by_cases c1 : a1 < 0
  · replace hF := ite_t c1 hF
    refine GR.t c1 ?_
    obtain ⟨f1, f2⟩ := finW hF
    subst f1
    subst f2
    exact GR.ret P
  replace hF := ite_f c1 hF
  refine GR.f c1 ?_
  refine GR.bind (P.rI (k := 7) h0 (by decide) (by decide) (by decide)) ?_
  by_cases c2 : (hi w a0 7) ≤ a1
  · replace hF := ite_t c2 hF
    refine GR.t c2 ?_
    obtain ⟨f1, f2⟩ := finW hF
    subst f1
    subst f2
    exact GR.ret P
  replace hF := ite_f c2 hF
  refine GR.f c2 ?_
  obtain ⟨f1, f2⟩ := finW hF
  subst f1
  subst f2
  exact GR.ret P
def FX9_isMarch (w : HS) (a0 : Nat) (a1 : Int32) : Option (Int32 × HS) :=
  okb (hc w a0 == 9) (if a1 < 0 then (some ((0 : Int32), w)) else
  (if (hi w a0 11) ≤ a1 then (some ((0 : Int32), w)) else
  (some ((1 : Int32), w))))
set_option maxHeartbeats 4000000 in
set_option maxRecDepth 100000 in
theorem rX9_isMarch {ar : Nat → Nat → Nat} {c0 : Nat → Nat} {sz : Nat} {g : PH} {w w' : HS} {a0 : Nat} {a1 : Int32} {r : Int32} (P : Rel ar c0 sz g w) (hF : FX9_isMarch w a0 a1 = some (r, w')) : GR ar c0 sz r w' (fX9_isMarch g a0 a1) := by
  unfold FX9_isMarch at hF
  unfold fX9_isMarch
  replace hF := okb_some hF
  obtain ⟨h0, hF⟩ := hF
  replace h0 := P.cls h0
  refine GR.ok (P.rO h0 (by decide)) ?_
  by_cases c1 : a1 < 0
  · replace hF := ite_t c1 hF
    refine GR.t c1 ?_
    obtain ⟨f1, f2⟩ := finW hF
    subst f1
    subst f2
    exact GR.ret P
  replace hF := ite_f c1 hF
  refine GR.f c1 ?_
  refine GR.bind (P.rI (k := 11) h0 (by decide) (by decide) (by decide)) ?_
  by_cases c2 : (hi w a0 11) ≤ a1
  · replace hF := ite_t c2 hF
    refine GR.t c2 ?_
    obtain ⟨f1, f2⟩ := finW hF
    subst f1
    subst f2
    exact GR.ret P
  replace hF := ite_f c2 hF
  refine GR.f c2 ?_
  obtain ⟨f1, f2⟩ := finW hF
  subst f1
  subst f2
  exact GR.ret P
def FX9_isPair_2  : Nat → HS → Nat → Int32 → Int32 → Option (Int32 × HS)
  | 0, _, _, _, _ => none
  | n + 1, w, v0, v1, v2 =>
  okb (inb v1 9) (if (ha w v0 6 v1.toNatClampNeg) ≤ v2 then (some ((0 : Int32), w)) else
  ((FX9_ruleAt w v0 v1 v2 (0 : Int32)).bind fun q3 =>
  (if q3.1 = (97 : Int32) then (some ((1 : Int32), q3.2)) else
  (if q3.1 = (115 : Int32) then (some ((1 : Int32), q3.2)) else
  (if q3.1 = (109 : Int32) then (some ((1 : Int32), q3.2)) else
  (if q3.1 = (98 : Int32) then (some ((1 : Int32), q3.2)) else
  (FX9_isPair_2 n q3.2 v0 v1 (v2 + (1 : Int32)))))))))
set_option maxHeartbeats 4000000 in
set_option maxRecDepth 100000 in
theorem rX9_isPair_2 {ar : Nat → Nat → Nat} {c0 : Nat → Nat} {sz : Nat} {r : Int32} {w' : HS}   : ∀ (n : Nat) (g : PH) (w : HS) (v0 : Nat) (v1 : Int32) (v2 : Int32), c0 v0 = 9 → Rel ar c0 sz g w → FX9_isPair_2  n w v0 v1 v2 = some (r, w') → GR ar c0 sz r w' (fX9_isPair_2  n g v0 v1 v2) := by
  intro n
  induction n with
  | zero =>
    intro g w v0 v1 v2 h0 P hF
    rw [FX9_isPair_2] at hF
    cases hF
  | succ n ih =>
    intro g w v0 v1 v2 h0 P hF
    rw [FX9_isPair_2] at hF
    rw [fX9_isPair_2]
    refine GR.bind (P.getRa (k := 6) h0 (by decide) (by decide) (by decide)) ?_
    replace hF := okb_some hF
    obtain ⟨h1, hF⟩ := hF
    refine GR.bind (P.dI (k := 6) (n := v1.toNatClampNeg) h0 (by decide) (by decide) (by decide) (by decide) h1 rfl) ?_
    by_cases c2 : (ha w v0 6 v1.toNatClampNeg) ≤ v2
    · replace hF := ite_t c2 hF
      refine GR.t c2 ?_
      obtain ⟨f1, f2⟩ := finW hF
      subst f1
      subst f2
      exact GR.ret P
    replace hF := ite_f c2 hF
    refine GR.f c2 ?_
    replace hF := ob_some hF
    obtain ⟨q3, h4, hF⟩ := hF
    obtain ⟨g5, e6, P⟩ := rX9_ruleAt (r := q3.1) (w' := q3.2) P h4
    refine GR.bind e6 ?_
    by_cases c7 : q3.1 = (97 : Int32)
    · replace hF := ite_t c7 hF
      refine GR.t c7 ?_
      obtain ⟨f1, f2⟩ := finW hF
      subst f1
      subst f2
      exact GR.ret P
    replace hF := ite_f c7 hF
    refine GR.f c7 ?_
    by_cases c8 : q3.1 = (115 : Int32)
    · replace hF := ite_t c8 hF
      refine GR.t c8 ?_
      obtain ⟨f1, f2⟩ := finW hF
      subst f1
      subst f2
      exact GR.ret P
    replace hF := ite_f c8 hF
    refine GR.f c8 ?_
    by_cases c9 : q3.1 = (109 : Int32)
    · replace hF := ite_t c9 hF
      refine GR.t c9 ?_
      obtain ⟨f1, f2⟩ := finW hF
      subst f1
      subst f2
      exact GR.ret P
    replace hF := ite_f c9 hF
    refine GR.f c9 ?_
    by_cases c10 : q3.1 = (98 : Int32)
    · replace hF := ite_t c10 hF
      refine GR.t c10 ?_
      obtain ⟨f1, f2⟩ := finW hF
      subst f1
      subst f2
      exact GR.ret P
    replace hF := ite_f c10 hF
    refine GR.f c10 ?_
    exact ih _ _ _ _ _ h0 P hF
def FX9_isPair (w : HS) (a0 : Nat) (a1 : Int32) : Option (Int32 × HS) :=
  okb (hc w a0 == 9) (FX9_isPair_2 FUEL w a0 a1 (0 : Int32))
set_option maxHeartbeats 4000000 in
set_option maxRecDepth 100000 in
theorem rX9_isPair {ar : Nat → Nat → Nat} {c0 : Nat → Nat} {sz : Nat} {g : PH} {w w' : HS} {a0 : Nat} {a1 : Int32} {r : Int32} (P : Rel ar c0 sz g w) (hF : FX9_isPair w a0 a1 = some (r, w')) : GR ar c0 sz r w' (fX9_isPair g a0 a1) := by
  unfold FX9_isPair at hF
  unfold fX9_isPair
  replace hF := okb_some hF
  obtain ⟨h0, hF⟩ := hF
  replace h0 := P.cls h0
  refine GR.ok (P.rO h0 (by decide)) ?_
  exact rX9_isPair_2  _ _ _ _ _ _ h0 P hF
def FX9_anys_31 (k4 : HS → Nat → Int32 → Int32 → Int32 → Option (Int32 × HS)) (w : HS) (v0 : Nat) (v1 : Int32) (v3 : Int32) (s0 : Int32) (s1 : Int32) : Option (Int32 × HS) :=
  k4 w v0 v1 (s1 + s0) (v3 + (1 : Int32))
set_option maxHeartbeats 4000000 in
set_option maxRecDepth 100000 in
theorem rX9_anys_31 {ar : Nat → Nat → Nat} {c0 : Nat → Nat} {sz : Nat} {r : Int32} {w' : HS} {k4 : HS → Nat → Int32 → Int32 → Int32 → Option (Int32 × HS)} {j4 : PH → Nat → Int32 → Int32 → Int32 → Option (Int32 × PH)} (hk4 : ∀ (g : PH) (w : HS) (v0 : Nat) (v1 : Int32) (v2 : Int32) (v3 : Int32), c0 v0 = 9 → Rel ar c0 sz g w → k4 w v0 v1 v2 v3 = some (r, w') → GR ar c0 sz r w' (j4 g v0 v1 v2 v3)) {g : PH} {w : HS} {v0 : Nat} {v1 : Int32} {v3 : Int32} {s0 : Int32} {s1 : Int32} (h0 : c0 v0 = 9) (P : Rel ar c0 sz g w) (hF : FX9_anys_31 k4 w v0 v1 v3 s0 s1 = some (r, w')) : GR ar c0 sz r w' (fX9_anys_31 j4 g v0 v1 v3 s0 s1) := by
  unfold FX9_anys_31 at hF
  unfold fX9_anys_31
  exact hk4 _ _ _ _ _ _ h0 P hF
def FX9_anys_4  : Nat → HS → Nat → Int32 → Int32 → Int32 → Option (Int32 × HS)
  | 0, _, _, _, _, _ => none
  | n + 1, w, v0, v1, v2, v3 =>
  okb (inb v1 7) (if (ha w v0 9 v1.toNatClampNeg) ≤ v3 then (some (v2, w)) else
  ((FX9_elementAt w v0 v1 v3 (0 : Int32)).bind fun q3 =>
  (if q3.1 = (2 : Int32) then (FX9_anys_31 (FX9_anys_4 n) q3.2 v0 v1 v3 (1 : Int32) v2) else
  (FX9_anys_31 (FX9_anys_4 n) q3.2 v0 v1 v3 (0 : Int32) v2))))
set_option maxHeartbeats 4000000 in
set_option maxRecDepth 100000 in
theorem rX9_anys_4 {ar : Nat → Nat → Nat} {c0 : Nat → Nat} {sz : Nat} {r : Int32} {w' : HS}   : ∀ (n : Nat) (g : PH) (w : HS) (v0 : Nat) (v1 : Int32) (v2 : Int32) (v3 : Int32), c0 v0 = 9 → Rel ar c0 sz g w → FX9_anys_4  n w v0 v1 v2 v3 = some (r, w') → GR ar c0 sz r w' (fX9_anys_4  n g v0 v1 v2 v3) := by
  intro n
  induction n with
  | zero =>
    intro g w v0 v1 v2 v3 h0 P hF
    rw [FX9_anys_4] at hF
    cases hF
  | succ n ih =>
    intro g w v0 v1 v2 v3 h0 P hF
    rw [FX9_anys_4] at hF
    rw [fX9_anys_4]
    refine GR.bind (P.getRa (k := 9) h0 (by decide) (by decide) (by decide)) ?_
    replace hF := okb_some hF
    obtain ⟨h1, hF⟩ := hF
    refine GR.bind (P.dI (k := 9) (n := v1.toNatClampNeg) h0 (by decide) (by decide) (by decide) (by decide) h1 rfl) ?_
    by_cases c2 : (ha w v0 9 v1.toNatClampNeg) ≤ v3
    · replace hF := ite_t c2 hF
      refine GR.t c2 ?_
      obtain ⟨f1, f2⟩ := finW hF
      subst f1
      subst f2
      exact GR.ret P
    replace hF := ite_f c2 hF
    refine GR.f c2 ?_
    replace hF := ob_some hF
    obtain ⟨q3, h4, hF⟩ := hF
    obtain ⟨g5, e6, P⟩ := rX9_elementAt (r := q3.1) (w' := q3.2) P h4
    refine GR.bind e6 ?_
    by_cases c7 : q3.1 = (2 : Int32)
    · replace hF := ite_t c7 hF
      refine GR.t c7 ?_
      exact rX9_anys_31 ih h0 P hF
    replace hF := ite_f c7 hF
    refine GR.f c7 ?_
    exact rX9_anys_31 ih h0 P hF
def FX9_anys (w : HS) (a0 : Nat) (a1 : Int32) : Option (Int32 × HS) :=
  okb (hc w a0 == 9) (FX9_anys_4 FUEL w a0 a1 (0 : Int32) (0 : Int32))
set_option maxHeartbeats 4000000 in
set_option maxRecDepth 100000 in
theorem rX9_anys {ar : Nat → Nat → Nat} {c0 : Nat → Nat} {sz : Nat} {g : PH} {w w' : HS} {a0 : Nat} {a1 : Int32} {r : Int32} (P : Rel ar c0 sz g w) (hF : FX9_anys w a0 a1 = some (r, w')) : GR ar c0 sz r w' (fX9_anys g a0 a1) := by
  unfold FX9_anys at hF
  unfold fX9_anys
  replace hF := okb_some hF
  obtain ⟨h0, hF⟩ := hF
  replace h0 := P.cls h0
  refine GR.ok (P.rO h0 (by decide)) ?_
  exact rX9_anys_4  _ _ _ _ _ _ _ h0 P hF
def FX9_bit (w : HS) (a0 : Nat) (a1 : Int32) : Option (Int32 × HS) :=
  okb (hc w a0 == 9) (some ((((ha w a0 16 0) >>> (a1 &&& 31)) &&& (1 : Int32)), w))
set_option maxHeartbeats 4000000 in
set_option maxRecDepth 100000 in
theorem rX9_bit {ar : Nat → Nat → Nat} {c0 : Nat → Nat} {sz : Nat} {g : PH} {w w' : HS} {a0 : Nat} {a1 : Int32} {r : Int32} (P : Rel ar c0 sz g w) (hF : FX9_bit w a0 a1 = some (r, w')) : GR ar c0 sz r w' (fX9_bit g a0 a1) := by
  unfold FX9_bit at hF
  unfold fX9_bit
  replace hF := okb_some hF
  obtain ⟨h0, hF⟩ := hF
  replace h0 := P.cls h0
  refine GR.ok (P.rO h0 (by decide)) ?_
  refine GR.bind (P.getRa (k := 16) h0 (by decide) (by decide) (by decide)) ?_
  refine GR.bind (P.dI (k := 16) (n := 0) h0 (by decide) (by decide) (by decide) (by decide) (by decide) (by decide)) ?_
  obtain ⟨f1, f2⟩ := finW hF
  subst f1
  subst f2
  exact GR.ret P
def FX9_sets (w : HS) (a0 : Nat) (a1 : Int32) (a2 : Int32) : Option (Unit × HS) :=
  okb (hc w a0 == 9) ((FX9_with w (ha w a0 16 0) a1 a2).bind fun q1 =>
  (bnd (setA q1.2 a0 16 0 q1.1) fun w7 =>
  (some ((), w7))))
set_option maxHeartbeats 4000000 in
set_option maxRecDepth 100000 in
theorem rX9_sets {ar : Nat → Nat → Nat} {c0 : Nat → Nat} {sz : Nat} {g : PH} {w w' : HS} {a0 : Nat} {a1 : Int32} {a2 : Int32} {r : Unit} (P : Rel ar c0 sz g w) (hF : FX9_sets w a0 a1 a2 = some (r, w')) : GR ar c0 sz r w' (fX9_sets g a0 a1 a2) := by
  unfold FX9_sets at hF
  unfold fX9_sets
  replace hF := okb_some hF
  obtain ⟨h0, hF⟩ := hF
  replace h0 := P.cls h0
  refine GR.ok (P.rO h0 (by decide)) ?_
  refine GR.bind (P.getRa (k := 16) h0 (by decide) (by decide) (by decide)) ?_
  refine GR.bind (P.getRa (k := 16) h0 (by decide) (by decide) (by decide)) ?_
  refine GR.bind (P.dI (k := 16) (n := 0) h0 (by decide) (by decide) (by decide) (by decide) (by decide) (by decide)) ?_
  replace hF := ob_some hF
  obtain ⟨q1, h2, hF⟩ := hF
  obtain ⟨g3, e4, P⟩ := rX9_with (r := q1.1) (w' := q1.2) P h2
  refine GR.bind e4 ?_
  replace hF := bnd_e hF
  obtain ⟨w7, e8, hF⟩ := hF
  obtain ⟨g5, e6, P⟩ := P.sI (k := 16) (kd := 0) (j := (0 : Int32)) h0 (by decide) (by decide) (by decide) (by decide) (by decide) (by decide) e8
  refine GR.bind e6 ?_
  obtain ⟨f1, f2⟩ := finW hF
  subst f1
  subst f2
  exact GR.ret P
def FX9_ruleOf_78 (k11 : HS → Nat → Int32 → Int32 → Int32 → Int32 → Int32 → Option (Int32 × HS)) (w : HS) (v0 : Nat) (v1 : Int32) (v2 : Int32) (v3 : Int32) (v4 : Int32) (v5 : Int32) : Option (Int32 × HS) :=
  k11 w v0 v1 v2 v3 v4 (v5 + (1 : Int32))
set_option maxHeartbeats 4000000 in
set_option maxRecDepth 100000 in
theorem rX9_ruleOf_78 {ar : Nat → Nat → Nat} {c0 : Nat → Nat} {sz : Nat} {r : Int32} {w' : HS} {k11 : HS → Nat → Int32 → Int32 → Int32 → Int32 → Int32 → Option (Int32 × HS)} {j11 : PH → Nat → Int32 → Int32 → Int32 → Int32 → Int32 → Option (Int32 × PH)} (hk11 : ∀ (g : PH) (w : HS) (v0 : Nat) (v1 : Int32) (v2 : Int32) (v3 : Int32) (v4 : Int32) (v5 : Int32), c0 v0 = 9 → Rel ar c0 sz g w → k11 w v0 v1 v2 v3 v4 v5 = some (r, w') → GR ar c0 sz r w' (j11 g v0 v1 v2 v3 v4 v5)) {g : PH} {w : HS} {v0 : Nat} {v1 : Int32} {v2 : Int32} {v3 : Int32} {v4 : Int32} {v5 : Int32} (h0 : c0 v0 = 9) (P : Rel ar c0 sz g w) (hF : FX9_ruleOf_78 k11 w v0 v1 v2 v3 v4 v5 = some (r, w')) : GR ar c0 sz r w' (fX9_ruleOf_78 j11 g v0 v1 v2 v3 v4 v5) := by
  unfold FX9_ruleOf_78 at hF
  unfold fX9_ruleOf_78
  exact hk11 _ _ _ _ _ _ _ _ h0 P hF
def FX9_ruleOf_58 (k11 : HS → Nat → Int32 → Int32 → Int32 → Int32 → Int32 → Option (Int32 × HS)) (w : HS) (v0 : Nat) (v1 : Int32) (v2 : Int32) (v3 : Int32) (v4 : Int32) (v5 : Int32) : Option (Int32 × HS) :=
  if v3 < 0 then (some (v5, w)) else
  ((FX9_ruleAt w v0 v4 v5 (2 : Int32)).bind fun q2 =>
  (if q2.1 = v3 then (some (v5, q2.2)) else
  (FX9_ruleOf_78 (k11) q2.2 v0 v1 v2 v3 v4 v5)))
set_option maxHeartbeats 4000000 in
set_option maxRecDepth 100000 in
theorem rX9_ruleOf_58 {ar : Nat → Nat → Nat} {c0 : Nat → Nat} {sz : Nat} {r : Int32} {w' : HS} {k11 : HS → Nat → Int32 → Int32 → Int32 → Int32 → Int32 → Option (Int32 × HS)} {j11 : PH → Nat → Int32 → Int32 → Int32 → Int32 → Int32 → Option (Int32 × PH)} (hk11 : ∀ (g : PH) (w : HS) (v0 : Nat) (v1 : Int32) (v2 : Int32) (v3 : Int32) (v4 : Int32) (v5 : Int32), c0 v0 = 9 → Rel ar c0 sz g w → k11 w v0 v1 v2 v3 v4 v5 = some (r, w') → GR ar c0 sz r w' (j11 g v0 v1 v2 v3 v4 v5)) {g : PH} {w : HS} {v0 : Nat} {v1 : Int32} {v2 : Int32} {v3 : Int32} {v4 : Int32} {v5 : Int32} (h0 : c0 v0 = 9) (P : Rel ar c0 sz g w) (hF : FX9_ruleOf_58 k11 w v0 v1 v2 v3 v4 v5 = some (r, w')) : GR ar c0 sz r w' (fX9_ruleOf_58 j11 g v0 v1 v2 v3 v4 v5) := by
  unfold FX9_ruleOf_58 at hF
  unfold fX9_ruleOf_58
  by_cases c1 : v3 < 0
  · replace hF := ite_t c1 hF
    refine GR.t c1 ?_
    obtain ⟨f1, f2⟩ := finW hF
    subst f1
    subst f2
    exact GR.ret P
  replace hF := ite_f c1 hF
  refine GR.f c1 ?_
  replace hF := ob_some hF
  obtain ⟨q2, h3, hF⟩ := hF
  obtain ⟨g4, e5, P⟩ := rX9_ruleAt (r := q2.1) (w' := q2.2) P h3
  refine GR.bind e5 ?_
  by_cases c6 : q2.1 = v3
  · replace hF := ite_t c6 hF
    refine GR.t c6 ?_
    obtain ⟨f1, f2⟩ := finW hF
    subst f1
    subst f2
    exact GR.ret P
  replace hF := ite_f c6 hF
  refine GR.f c6 ?_
  exact rX9_ruleOf_78 hk11 h0 P hF
def FX9_ruleOf_11  : Nat → HS → Nat → Int32 → Int32 → Int32 → Int32 → Int32 → Option (Int32 × HS)
  | 0, _, _, _, _, _, _, _ => none
  | n + 1, w, v0, v1, v2, v3, v4, v5 =>
  if v4 < 0 then (some ((-1 : Int32), w)) else
  (okb (inb v4 9) (if (ha w v0 6 v4.toNatClampNeg) ≤ v5 then (some ((-1 : Int32), w)) else
  ((FX9_ruleAt w v0 v4 v5 (0 : Int32)).bind fun q4 =>
  (if q4.1 = v1 then (if v2 < 0 then (FX9_ruleOf_58 (FX9_ruleOf_11 n) q4.2 v0 v1 v2 v3 v4 v5) else
  ((FX9_ruleAt q4.2 v0 v4 v5 (1 : Int32)).bind fun q10 =>
  (if q10.1 = v2 then (FX9_ruleOf_58 (FX9_ruleOf_11 n) q10.2 v0 v1 v2 v3 v4 v5) else
  (FX9_ruleOf_78 (FX9_ruleOf_11 n) q10.2 v0 v1 v2 v3 v4 v5)))) else
  (FX9_ruleOf_78 (FX9_ruleOf_11 n) q4.2 v0 v1 v2 v3 v4 v5)))))
set_option maxHeartbeats 4000000 in
set_option maxRecDepth 100000 in
theorem rX9_ruleOf_11 {ar : Nat → Nat → Nat} {c0 : Nat → Nat} {sz : Nat} {r : Int32} {w' : HS}   : ∀ (n : Nat) (g : PH) (w : HS) (v0 : Nat) (v1 : Int32) (v2 : Int32) (v3 : Int32) (v4 : Int32) (v5 : Int32), c0 v0 = 9 → Rel ar c0 sz g w → FX9_ruleOf_11  n w v0 v1 v2 v3 v4 v5 = some (r, w') → GR ar c0 sz r w' (fX9_ruleOf_11  n g v0 v1 v2 v3 v4 v5) := by
  intro n
  induction n with
  | zero =>
    intro g w v0 v1 v2 v3 v4 v5 h0 P hF
    rw [FX9_ruleOf_11] at hF
    cases hF
  | succ n ih =>
    intro g w v0 v1 v2 v3 v4 v5 h0 P hF
    rw [FX9_ruleOf_11] at hF
    rw [fX9_ruleOf_11]
    by_cases c1 : v4 < 0
    · replace hF := ite_t c1 hF
      refine GR.t c1 ?_
      obtain ⟨f1, f2⟩ := finW hF
      subst f1
      subst f2
      exact GR.ret P
    replace hF := ite_f c1 hF
    refine GR.f c1 ?_
    refine GR.bind (P.getRa (k := 6) h0 (by decide) (by decide) (by decide)) ?_
    replace hF := okb_some hF
    obtain ⟨h2, hF⟩ := hF
    refine GR.bind (P.dI (k := 6) (n := v4.toNatClampNeg) h0 (by decide) (by decide) (by decide) (by decide) h2 rfl) ?_
    by_cases c3 : (ha w v0 6 v4.toNatClampNeg) ≤ v5
    · replace hF := ite_t c3 hF
      refine GR.t c3 ?_
      obtain ⟨f1, f2⟩ := finW hF
      subst f1
      subst f2
      exact GR.ret P
    replace hF := ite_f c3 hF
    refine GR.f c3 ?_
    replace hF := ob_some hF
    obtain ⟨q4, h5, hF⟩ := hF
    obtain ⟨g6, e7, P⟩ := rX9_ruleAt (r := q4.1) (w' := q4.2) P h5
    refine GR.bind e7 ?_
    by_cases c8 : q4.1 = v1
    · replace hF := ite_t c8 hF
      refine GR.t c8 ?_
      by_cases c9 : v2 < 0
      · replace hF := ite_t c9 hF
        refine GR.t c9 ?_
        exact rX9_ruleOf_58 ih h0 P hF
      replace hF := ite_f c9 hF
      refine GR.f c9 ?_
      replace hF := ob_some hF
      obtain ⟨q10, h11, hF⟩ := hF
      obtain ⟨g12, e13, P⟩ := rX9_ruleAt (r := q10.1) (w' := q10.2) P h11
      refine GR.bind e13 ?_
      by_cases c14 : q10.1 = v2
      · replace hF := ite_t c14 hF
        refine GR.t c14 ?_
        exact rX9_ruleOf_58 ih h0 P hF
      replace hF := ite_f c14 hF
      refine GR.f c14 ?_
      exact rX9_ruleOf_78 ih h0 P hF
    replace hF := ite_f c8 hF
    refine GR.f c8 ?_
    exact rX9_ruleOf_78 ih h0 P hF
def FX9_ruleOf (w : HS) (a0 : Nat) (a1 : Int32) (a2 : Int32) (a3 : Int32) : Option (Int32 × HS) :=
  okb (hc w a0 == 9) (FX9_ruleOf_11 FUEL w a0 a1 a2 a3 (ha w a0 16 1) (0 : Int32))
set_option maxHeartbeats 4000000 in
set_option maxRecDepth 100000 in
theorem rX9_ruleOf {ar : Nat → Nat → Nat} {c0 : Nat → Nat} {sz : Nat} {g : PH} {w w' : HS} {a0 : Nat} {a1 : Int32} {a2 : Int32} {a3 : Int32} {r : Int32} (P : Rel ar c0 sz g w) (hF : FX9_ruleOf w a0 a1 a2 a3 = some (r, w')) : GR ar c0 sz r w' (fX9_ruleOf g a0 a1 a2 a3) := by
  unfold FX9_ruleOf at hF
  unfold fX9_ruleOf
  replace hF := okb_some hF
  obtain ⟨h0, hF⟩ := hF
  replace h0 := P.cls h0
  refine GR.ok (P.rO h0 (by decide)) ?_
  refine GR.bind (P.getRa (k := 16) h0 (by decide) (by decide) (by decide)) ?_
  refine GR.bind (P.dI (k := 16) (n := 1) h0 (by decide) (by decide) (by decide) (by decide) (by decide) (by decide)) ?_
  exact rX9_ruleOf_11  _ _ _ _ _ _ _ _ _ h0 P hF
def FX9_toldBy (w : HS) (a0 : Nat) (a1 : Int32) (a2 : Int32) : Option (Int32 × HS) :=
  okb (hc w a0 == 9) ((FX9_ruleAt w a0 (ha w a0 16 1) a1 a2).bind fun q1 =>
  (some (q1.1, q1.2)))
set_option maxHeartbeats 4000000 in
set_option maxRecDepth 100000 in
theorem rX9_toldBy {ar : Nat → Nat → Nat} {c0 : Nat → Nat} {sz : Nat} {g : PH} {w w' : HS} {a0 : Nat} {a1 : Int32} {a2 : Int32} {r : Int32} (P : Rel ar c0 sz g w) (hF : FX9_toldBy w a0 a1 a2 = some (r, w')) : GR ar c0 sz r w' (fX9_toldBy g a0 a1 a2) := by
  unfold FX9_toldBy at hF
  unfold fX9_toldBy
  replace hF := okb_some hF
  obtain ⟨h0, hF⟩ := hF
  replace h0 := P.cls h0
  refine GR.ok (P.rO h0 (by decide)) ?_
  refine GR.bind (P.getRa (k := 16) h0 (by decide) (by decide) (by decide)) ?_
  refine GR.bind (P.dI (k := 16) (n := 1) h0 (by decide) (by decide) (by decide) (by decide) (by decide) (by decide)) ?_
  replace hF := ob_some hF
  obtain ⟨q1, h2, hF⟩ := hF
  obtain ⟨g3, e4, P⟩ := rX9_ruleAt (r := q1.1) (w' := q1.2) P h2
  refine GR.bind e4 ?_
  obtain ⟨f1, f2⟩ := finW hF
  subst f1
  subst f2
  exact GR.ret P
def FX9_settles_101 (k31 : HS → Nat → Int32 → Option (Unit × HS)) (w : HS) (v0 : Nat) (v2 : Int32) : Option (Unit × HS) :=
  k31 w v0 (v2 + (1 : Int32))
set_option maxHeartbeats 4000000 in
set_option maxRecDepth 100000 in
theorem rX9_settles_101 {ar : Nat → Nat → Nat} {c0 : Nat → Nat} {sz : Nat} {r : Unit} {w' : HS} {k31 : HS → Nat → Int32 → Option (Unit × HS)} {j31 : PH → Nat → Int32 → Option (Unit × PH)} (hk31 : ∀ (g : PH) (w : HS) (v0 : Nat) (v2 : Int32), c0 v0 = 9 → Rel ar c0 sz g w → k31 w v0 v2 = some (r, w') → GR ar c0 sz r w' (j31 g v0 v2)) {g : PH} {w : HS} {v0 : Nat} {v2 : Int32} (h0 : c0 v0 = 9) (P : Rel ar c0 sz g w) (hF : FX9_settles_101 k31 w v0 v2 = some (r, w')) : GR ar c0 sz r w' (fX9_settles_101 j31 g v0 v2) := by
  unfold FX9_settles_101 at hF
  unfold fX9_settles_101
  exact hk31 _ _ _ _ h0 P hF
def FX9_settles_31  : Nat → HS → Nat → Int32 → Option (Unit × HS)
  | 0, _, _, _ => none
  | n + 1, w, v0, v2 =>
  if (ha w v0 16 1) < 0 then (some ((), w)) else
  (okb (inb (ha w v0 16 1) 9) (if (ha w v0 6 (ha w v0 16 1).toNatClampNeg) ≤ v2 then (some ((), w)) else
  ((FX9_toldBy w v0 v2 (0 : Int32)).bind fun q4 =>
  (if q4.1 = (115 : Int32) then ((FX9_bit q4.2 v0 (ha q4.2 v0 16 2)).bind fun q9 =>
  ((FX9_toldBy q9.2 v0 v2 (1 : Int32)).bind fun q13 =>
  (if q9.1 = q13.1 then ((FX9_toldBy q13.2 v0 v2 (3 : Int32)).bind fun q18 =>
  ((FX9_sets q18.2 v0 (ha q13.2 v0 16 3) q18.1).bind fun q22 =>
  (FX9_settles_101 (FX9_settles_31 n) q22.2 v0 v2))) else
  (FX9_settles_101 (FX9_settles_31 n) q13.2 v0 v2)))) else
  (FX9_settles_101 (FX9_settles_31 n) q4.2 v0 v2)))))
set_option maxHeartbeats 4000000 in
set_option maxRecDepth 100000 in
theorem rX9_settles_31 {ar : Nat → Nat → Nat} {c0 : Nat → Nat} {sz : Nat} {r : Unit} {w' : HS}   : ∀ (n : Nat) (g : PH) (w : HS) (v0 : Nat) (v2 : Int32), c0 v0 = 9 → Rel ar c0 sz g w → FX9_settles_31  n w v0 v2 = some (r, w') → GR ar c0 sz r w' (fX9_settles_31  n g v0 v2) := by
  intro n
  induction n with
  | zero =>
    intro g w v0 v2 h0 P hF
    rw [FX9_settles_31] at hF
    cases hF
  | succ n ih =>
    intro g w v0 v2 h0 P hF
    rw [FX9_settles_31] at hF
    rw [fX9_settles_31]
    refine GR.bind (P.getRa (k := 16) h0 (by decide) (by decide) (by decide)) ?_
    refine GR.bind (P.dI (k := 16) (n := 1) h0 (by decide) (by decide) (by decide) (by decide) (by decide) (by decide)) ?_
    by_cases c1 : (ha w v0 16 1) < 0
    · replace hF := ite_t c1 hF
      refine GR.t c1 ?_
      obtain ⟨f1, f2⟩ := finW hF
      subst f1
      subst f2
      exact GR.ret P
    replace hF := ite_f c1 hF
    refine GR.f c1 ?_
    refine GR.bind (P.getRa (k := 6) h0 (by decide) (by decide) (by decide)) ?_
    refine GR.bind (P.getRa (k := 16) h0 (by decide) (by decide) (by decide)) ?_
    refine GR.bind (P.dI (k := 16) (n := 1) h0 (by decide) (by decide) (by decide) (by decide) (by decide) (by decide)) ?_
    replace hF := okb_some hF
    obtain ⟨h2, hF⟩ := hF
    refine GR.bind (P.dI (k := 6) (n := (ha w v0 16 1).toNatClampNeg) h0 (by decide) (by decide) (by decide) (by decide) h2 rfl) ?_
    by_cases c3 : (ha w v0 6 (ha w v0 16 1).toNatClampNeg) ≤ v2
    · replace hF := ite_t c3 hF
      refine GR.t c3 ?_
      obtain ⟨f1, f2⟩ := finW hF
      subst f1
      subst f2
      exact GR.ret P
    replace hF := ite_f c3 hF
    refine GR.f c3 ?_
    replace hF := ob_some hF
    obtain ⟨q4, h5, hF⟩ := hF
    obtain ⟨g6, e7, P⟩ := rX9_toldBy (r := q4.1) (w' := q4.2) P h5
    refine GR.bind e7 ?_
    by_cases c8 : q4.1 = (115 : Int32)
    · replace hF := ite_t c8 hF
      refine GR.t c8 ?_
      refine GR.bind (P.getRa (k := 16) h0 (by decide) (by decide) (by decide)) ?_
      refine GR.bind (P.dI (k := 16) (n := 2) h0 (by decide) (by decide) (by decide) (by decide) (by decide) (by decide)) ?_
      replace hF := ob_some hF
      obtain ⟨q9, h10, hF⟩ := hF
      obtain ⟨g11, e12, P⟩ := rX9_bit (r := q9.1) (w' := q9.2) P h10
      refine GR.bind e12 ?_
      replace hF := ob_some hF
      obtain ⟨q13, h14, hF⟩ := hF
      obtain ⟨g15, e16, P⟩ := rX9_toldBy (r := q13.1) (w' := q13.2) P h14
      refine GR.bind e16 ?_
      by_cases c17 : q9.1 = q13.1
      · replace hF := ite_t c17 hF
        refine GR.t c17 ?_
        refine GR.bind (P.getRa (k := 16) h0 (by decide) (by decide) (by decide)) ?_
        refine GR.bind (P.dI (k := 16) (n := 3) h0 (by decide) (by decide) (by decide) (by decide) (by decide) (by decide)) ?_
        replace hF := ob_some hF
        obtain ⟨q18, h19, hF⟩ := hF
        obtain ⟨g20, e21, P⟩ := rX9_toldBy (r := q18.1) (w' := q18.2) P h19
        refine GR.bind e21 ?_
        replace hF := ob_some hF
        obtain ⟨q22, h23, hF⟩ := hF
        obtain ⟨g24, e25, P⟩ := rX9_sets (r := q22.1) (w' := q22.2) P h23
        refine GR.bind e25 ?_
        exact rX9_settles_101 ih h0 P hF
      replace hF := ite_f c17 hF
      refine GR.f c17 ?_
      exact rX9_settles_101 ih h0 P hF
    replace hF := ite_f c8 hF
    refine GR.f c8 ?_
    exact rX9_settles_101 ih h0 P hF
def FX9_settles_29  (w : HS) (v0 : Nat) : Option (Unit × HS) :=
  FX9_settles_31 FUEL w v0 (0 : Int32)
set_option maxHeartbeats 4000000 in
set_option maxRecDepth 100000 in
theorem rX9_settles_29 {ar : Nat → Nat → Nat} {c0 : Nat → Nat} {sz : Nat} {r : Unit} {w' : HS}   {g : PH} {w : HS} {v0 : Nat} (h0 : c0 v0 = 9) (P : Rel ar c0 sz g w) (hF : FX9_settles_29  w v0 = some (r, w')) : GR ar c0 sz r w' (fX9_settles_29  g v0) := by
  unfold FX9_settles_29 at hF
  unfold fX9_settles_29
  exact rX9_settles_31  _ _ _ _ _ h0 P hF
def FX9_settles (w : HS) (a0 : Nat) : Option (Unit × HS) :=
  okb (hc w a0 == 9) ((FX9_ruleOf w a0 (107 : Int32) (-1 : Int32) (-1 : Int32)).bind fun q1 =>
  (if q1.1 < 0 then (FX9_settles_29 q1.2 a0) else
  ((FX9_toldBy q1.2 a0 q1.1 (3 : Int32)).bind fun q6 =>
  ((FX9_sets q6.2 a0 (ha q1.2 a0 16 3) q6.1).bind fun q10 =>
  (FX9_settles_29 q10.2 a0)))))
set_option maxHeartbeats 4000000 in
set_option maxRecDepth 100000 in
theorem rX9_settles {ar : Nat → Nat → Nat} {c0 : Nat → Nat} {sz : Nat} {g : PH} {w w' : HS} {a0 : Nat} {r : Unit} (P : Rel ar c0 sz g w) (hF : FX9_settles w a0 = some (r, w')) : GR ar c0 sz r w' (fX9_settles g a0) := by
  unfold FX9_settles at hF
  unfold fX9_settles
  replace hF := okb_some hF
  obtain ⟨h0, hF⟩ := hF
  replace h0 := P.cls h0
  refine GR.ok (P.rO h0 (by decide)) ?_
  replace hF := ob_some hF
  obtain ⟨q1, h2, hF⟩ := hF
  obtain ⟨g3, e4, P⟩ := rX9_ruleOf (r := q1.1) (w' := q1.2) P h2
  refine GR.bind e4 ?_
  by_cases c5 : q1.1 < 0
  · replace hF := ite_t c5 hF
    refine GR.t c5 ?_
    exact rX9_settles_29  h0 P hF
  replace hF := ite_f c5 hF
  refine GR.f c5 ?_
  refine GR.bind (P.getRa (k := 16) h0 (by decide) (by decide) (by decide)) ?_
  refine GR.bind (P.dI (k := 16) (n := 3) h0 (by decide) (by decide) (by decide) (by decide) (by decide) (by decide)) ?_
  replace hF := ob_some hF
  obtain ⟨q6, h7, hF⟩ := hF
  obtain ⟨g8, e9, P⟩ := rX9_toldBy (r := q6.1) (w' := q6.2) P h7
  refine GR.bind e9 ?_
  replace hF := ob_some hF
  obtain ⟨q10, h11, hF⟩ := hF
  obtain ⟨g12, e13, P⟩ := rX9_sets (r := q10.1) (w' := q10.2) P h11
  refine GR.bind e13 ?_
  exact rX9_settles_29  h0 P hF
def FX9_follows_66  (w : HS) (s0 : Int32) (s1 : Int32) (s2 : Nat) : Option (Unit × HS) :=
  (FX9_sets w s2 s1 s0).bind fun q1 =>
  (some ((), q1.2))
set_option maxHeartbeats 4000000 in
set_option maxRecDepth 100000 in
theorem rX9_follows_66 {ar : Nat → Nat → Nat} {c0 : Nat → Nat} {sz : Nat} {r : Unit} {w' : HS}   {g : PH} {w : HS} {s0 : Int32} {s1 : Int32} {s2 : Nat} (P : Rel ar c0 sz g w) (hF : FX9_follows_66  w s0 s1 s2 = some (r, w')) : GR ar c0 sz r w' (fX9_follows_66  g s0 s1 s2) := by
  unfold FX9_follows_66 at hF
  unfold fX9_follows_66
  replace hF := ob_some hF
  obtain ⟨q1, h2, hF⟩ := hF
  obtain ⟨g3, e4, P⟩ := rX9_sets (r := q1.1) (w' := q1.2) P h2
  refine GR.bind e4 ?_
  obtain ⟨f1, f2⟩ := finW hF
  subst f1
  subst f2
  exact GR.ret P
def FX9_follows (w : HS) (a0 : Nat) (a1 : Int32) (a2 : Int32) (a3 : Int32) : Option (Unit × HS) :=
  okb (hc w a0 == 9) (if a1 = (ha w a0 16 2) then ((FX9_ruleOf w a0 (97 : Int32) a2 a3).bind fun q2 =>
  (if q2.1 < 0 then (some ((), q2.2)) else
  ((FX9_toldBy q2.2 a0 q2.1 (3 : Int32)).bind fun q7 =>
  (if q7.1 = (2 : Int32) then ((FX9_bit q7.2 a0 (ha q7.2 a0 16 3)).bind fun q12 =>
  (FX9_follows_66 q12.2 ((1 : Int32) - q12.1) (ha q2.2 a0 16 3) a0)) else
  ((FX9_toldBy q7.2 a0 q2.1 (3 : Int32)).bind fun q16 =>
  (FX9_follows_66 q16.2 q16.1 (ha q2.2 a0 16 3) a0)))))) else
  (some ((), w)))
set_option maxHeartbeats 4000000 in
set_option maxRecDepth 100000 in
theorem rX9_follows {ar : Nat → Nat → Nat} {c0 : Nat → Nat} {sz : Nat} {g : PH} {w w' : HS} {a0 : Nat} {a1 : Int32} {a2 : Int32} {a3 : Int32} {r : Unit} (P : Rel ar c0 sz g w) (hF : FX9_follows w a0 a1 a2 a3 = some (r, w')) : GR ar c0 sz r w' (fX9_follows g a0 a1 a2 a3) := by
  unfold FX9_follows at hF
  unfold fX9_follows
  replace hF := okb_some hF
  obtain ⟨h0, hF⟩ := hF
  replace h0 := P.cls h0
  refine GR.ok (P.rO h0 (by decide)) ?_
  refine GR.bind (P.getRa (k := 16) h0 (by decide) (by decide) (by decide)) ?_
  refine GR.bind (P.dI (k := 16) (n := 2) h0 (by decide) (by decide) (by decide) (by decide) (by decide) (by decide)) ?_
  by_cases c1 : a1 = (ha w a0 16 2)
  · replace hF := ite_t c1 hF
    refine GR.t c1 ?_
    replace hF := ob_some hF
    obtain ⟨q2, h3, hF⟩ := hF
    obtain ⟨g4, e5, P⟩ := rX9_ruleOf (r := q2.1) (w' := q2.2) P h3
    refine GR.bind e5 ?_
    by_cases c6 : q2.1 < 0
    · replace hF := ite_t c6 hF
      refine GR.t c6 ?_
      obtain ⟨f1, f2⟩ := finW hF
      subst f1
      subst f2
      exact GR.ret P
    replace hF := ite_f c6 hF
    refine GR.f c6 ?_
    refine GR.bind (P.getRa (k := 16) h0 (by decide) (by decide) (by decide)) ?_
    refine GR.bind (P.dI (k := 16) (n := 3) h0 (by decide) (by decide) (by decide) (by decide) (by decide) (by decide)) ?_
    replace hF := ob_some hF
    obtain ⟨q7, h8, hF⟩ := hF
    obtain ⟨g9, e10, P⟩ := rX9_toldBy (r := q7.1) (w' := q7.2) P h8
    refine GR.bind e10 ?_
    by_cases c11 : q7.1 = (2 : Int32)
    · replace hF := ite_t c11 hF
      refine GR.t c11 ?_
      refine GR.bind (P.getRa (k := 16) h0 (by decide) (by decide) (by decide)) ?_
      refine GR.bind (P.dI (k := 16) (n := 3) h0 (by decide) (by decide) (by decide) (by decide) (by decide) (by decide)) ?_
      replace hF := ob_some hF
      obtain ⟨q12, h13, hF⟩ := hF
      obtain ⟨g14, e15, P⟩ := rX9_bit (r := q12.1) (w' := q12.2) P h13
      refine GR.bind e15 ?_
      exact rX9_follows_66  P hF
    replace hF := ite_f c11 hF
    refine GR.f c11 ?_
    replace hF := ob_some hF
    obtain ⟨q16, h17, hF⟩ := hF
    obtain ⟨g18, e19, P⟩ := rX9_toldBy (r := q16.1) (w' := q16.2) P h17
    refine GR.bind e19 ?_
    exact rX9_follows_66  P hF
  replace hF := ite_f c1 hF
  refine GR.f c1 ?_
  obtain ⟨f1, f2⟩ := finW hF
  subst f1
  subst f2
  exact GR.ret P
def FX9_writes_48  (w : HS) (v0 : Nat) (v1 : Int32) (v2 : Int32) (v3 : Int32) (s0 : Int32) (s1 : Int32) (s2 : Nat) : Option (Unit × HS) :=
  (FX9_sets w s2 s1 s0).bind fun q1 =>
  ((FX9_follows q1.2 v0 v1 v3 v2).bind fun q5 =>
  ((FX9_settles q5.2 v0).bind fun q9 =>
  (some ((), q9.2))))
set_option maxHeartbeats 4000000 in
set_option maxRecDepth 100000 in
theorem rX9_writes_48 {ar : Nat → Nat → Nat} {c0 : Nat → Nat} {sz : Nat} {r : Unit} {w' : HS}   {g : PH} {w : HS} {v0 : Nat} {v1 : Int32} {v2 : Int32} {v3 : Int32} {s0 : Int32} {s1 : Int32} {s2 : Nat} (h0 : c0 v0 = 9) (P : Rel ar c0 sz g w) (hF : FX9_writes_48  w v0 v1 v2 v3 s0 s1 s2 = some (r, w')) : GR ar c0 sz r w' (fX9_writes_48  g v0 v1 v2 v3 s0 s1 s2) := by
  unfold FX9_writes_48 at hF
  unfold fX9_writes_48
  replace hF := ob_some hF
  obtain ⟨q1, h2, hF⟩ := hF
  obtain ⟨g3, e4, P⟩ := rX9_sets (r := q1.1) (w' := q1.2) P h2
  refine GR.bind e4 ?_
  replace hF := ob_some hF
  obtain ⟨q5, h6, hF⟩ := hF
  obtain ⟨g7, e8, P⟩ := rX9_follows (r := q5.1) (w' := q5.2) P h6
  refine GR.bind e8 ?_
  replace hF := ob_some hF
  obtain ⟨q9, h10, hF⟩ := hF
  obtain ⟨g11, e12, P⟩ := rX9_settles (r := q9.1) (w' := q9.2) P h10
  refine GR.bind e12 ?_
  obtain ⟨f1, f2⟩ := finW hF
  subst f1
  subst f2
  exact GR.ret P
def FX9_writes_28  (w : HS) (v0 : Nat) (v1 : Int32) (v2 : Int32) (v3 : Int32) (s0 : Int32) : Option (Unit × HS) :=
  if s0 < 0 then (FX9_writes_48 w v0 v1 v2 v3 v2 v1 v0) else
  ((FX9_toldBy w v0 s0 (3 : Int32)).bind fun q2 =>
  (FX9_writes_48 q2.2 v0 v1 v2 v3 q2.1 v1 v0))
set_option maxHeartbeats 4000000 in
set_option maxRecDepth 100000 in
theorem rX9_writes_28 {ar : Nat → Nat → Nat} {c0 : Nat → Nat} {sz : Nat} {r : Unit} {w' : HS}   {g : PH} {w : HS} {v0 : Nat} {v1 : Int32} {v2 : Int32} {v3 : Int32} {s0 : Int32} (h0 : c0 v0 = 9) (P : Rel ar c0 sz g w) (hF : FX9_writes_28  w v0 v1 v2 v3 s0 = some (r, w')) : GR ar c0 sz r w' (fX9_writes_28  g v0 v1 v2 v3 s0) := by
  unfold FX9_writes_28 at hF
  unfold fX9_writes_28
  by_cases c1 : s0 < 0
  · replace hF := ite_t c1 hF
    refine GR.t c1 ?_
    exact rX9_writes_48  h0 P hF
  replace hF := ite_f c1 hF
  refine GR.f c1 ?_
  replace hF := ob_some hF
  obtain ⟨q2, h3, hF⟩ := hF
  obtain ⟨g4, e5, P⟩ := rX9_toldBy (r := q2.1) (w' := q2.2) P h3
  refine GR.bind e5 ?_
  exact rX9_writes_48  h0 P hF
def FX9_writes (w : HS) (a0 : Nat) (a1 : Int32) (a2 : Int32) : Option (Unit × HS) :=
  okb (hc w a0 == 9) ((FX9_bit w a0 a1).bind fun q1 =>
  (if a1 = (ha q1.2 a0 16 3) then ((FX9_ruleOf q1.2 a0 (118 : Int32) q1.1 a2).bind fun q6 =>
  (FX9_writes_28 q6.2 a0 a1 a2 q1.1 q6.1)) else
  (FX9_writes_28 q1.2 a0 a1 a2 q1.1 (-1 : Int32))))
set_option maxHeartbeats 4000000 in
set_option maxRecDepth 100000 in
theorem rX9_writes {ar : Nat → Nat → Nat} {c0 : Nat → Nat} {sz : Nat} {g : PH} {w w' : HS} {a0 : Nat} {a1 : Int32} {a2 : Int32} {r : Unit} (P : Rel ar c0 sz g w) (hF : FX9_writes w a0 a1 a2 = some (r, w')) : GR ar c0 sz r w' (fX9_writes g a0 a1 a2) := by
  unfold FX9_writes at hF
  unfold fX9_writes
  replace hF := okb_some hF
  obtain ⟨h0, hF⟩ := hF
  replace h0 := P.cls h0
  refine GR.ok (P.rO h0 (by decide)) ?_
  replace hF := ob_some hF
  obtain ⟨q1, h2, hF⟩ := hF
  obtain ⟨g3, e4, P⟩ := rX9_bit (r := q1.1) (w' := q1.2) P h2
  refine GR.bind e4 ?_
  refine GR.bind (P.getRa (k := 16) h0 (by decide) (by decide) (by decide)) ?_
  refine GR.bind (P.dI (k := 16) (n := 3) h0 (by decide) (by decide) (by decide) (by decide) (by decide) (by decide)) ?_
  by_cases c5 : a1 = (ha q1.2 a0 16 3)
  · replace hF := ite_t c5 hF
    refine GR.t c5 ?_
    replace hF := ob_some hF
    obtain ⟨q6, h7, hF⟩ := hF
    obtain ⟨g8, e9, P⟩ := rX9_ruleOf (r := q6.1) (w' := q6.2) P h7
    refine GR.bind e9 ?_
    exact rX9_writes_28  h0 P hF
  replace hF := ite_f c5 hF
  refine GR.f c5 ?_
  exact rX9_writes_28  h0 P hF
def FX9_reads_57  (w : HS) (v0 : Nat) (v1 : Int32) (v2 : Int32) (v3 : Int32) : Option (Int32 × HS) :=
  (FX9_follows w v0 v1 v2 (2 : Int32)).bind fun q1 =>
  ((FX9_settles q1.2 v0).bind fun q5 =>
  (some (v3, q5.2)))
set_option maxHeartbeats 4000000 in
set_option maxRecDepth 100000 in
theorem rX9_reads_57 {ar : Nat → Nat → Nat} {c0 : Nat → Nat} {sz : Nat} {r : Int32} {w' : HS}   {g : PH} {w : HS} {v0 : Nat} {v1 : Int32} {v2 : Int32} {v3 : Int32} (h0 : c0 v0 = 9) (P : Rel ar c0 sz g w) (hF : FX9_reads_57  w v0 v1 v2 v3 = some (r, w')) : GR ar c0 sz r w' (fX9_reads_57  g v0 v1 v2 v3) := by
  unfold FX9_reads_57 at hF
  unfold fX9_reads_57
  replace hF := ob_some hF
  obtain ⟨q1, h2, hF⟩ := hF
  obtain ⟨g3, e4, P⟩ := rX9_follows (r := q1.1) (w' := q1.2) P h2
  refine GR.bind e4 ?_
  replace hF := ob_some hF
  obtain ⟨q5, h6, hF⟩ := hF
  obtain ⟨g7, e8, P⟩ := rX9_settles (r := q5.1) (w' := q5.2) P h6
  refine GR.bind e8 ?_
  obtain ⟨f1, f2⟩ := finW hF
  subst f1
  subst f2
  exact GR.ret P
def FX9_reads_30  (w : HS) (v0 : Nat) (v1 : Int32) (v2 : Int32) (v3 : Int32) (s0 : Int32) : Option (Int32 × HS) :=
  if s0 < 0 then (FX9_reads_57 w v0 v1 v2 v3) else
  ((FX9_toldBy w v0 s0 (3 : Int32)).bind fun q2 =>
  ((FX9_sets q2.2 v0 v1 q2.1).bind fun q6 =>
  ((FX9_toldBy q6.2 v0 s0 (4 : Int32)).bind fun q10 =>
  (FX9_reads_57 q10.2 v0 v1 v2 q10.1))))
set_option maxHeartbeats 4000000 in
set_option maxRecDepth 100000 in
theorem rX9_reads_30 {ar : Nat → Nat → Nat} {c0 : Nat → Nat} {sz : Nat} {r : Int32} {w' : HS}   {g : PH} {w : HS} {v0 : Nat} {v1 : Int32} {v2 : Int32} {v3 : Int32} {s0 : Int32} (h0 : c0 v0 = 9) (P : Rel ar c0 sz g w) (hF : FX9_reads_30  w v0 v1 v2 v3 s0 = some (r, w')) : GR ar c0 sz r w' (fX9_reads_30  g v0 v1 v2 v3 s0) := by
  unfold FX9_reads_30 at hF
  unfold fX9_reads_30
  by_cases c1 : s0 < 0
  · replace hF := ite_t c1 hF
    refine GR.t c1 ?_
    exact rX9_reads_57  h0 P hF
  replace hF := ite_f c1 hF
  refine GR.f c1 ?_
  replace hF := ob_some hF
  obtain ⟨q2, h3, hF⟩ := hF
  obtain ⟨g4, e5, P⟩ := rX9_toldBy (r := q2.1) (w' := q2.2) P h3
  refine GR.bind e5 ?_
  replace hF := ob_some hF
  obtain ⟨q6, h7, hF⟩ := hF
  obtain ⟨g8, e9, P⟩ := rX9_sets (r := q6.1) (w' := q6.2) P h7
  refine GR.bind e9 ?_
  replace hF := ob_some hF
  obtain ⟨q10, h11, hF⟩ := hF
  obtain ⟨g12, e13, P⟩ := rX9_toldBy (r := q10.1) (w' := q10.2) P h11
  refine GR.bind e13 ?_
  exact rX9_reads_57  h0 P hF
def FX9_reads (w : HS) (a0 : Nat) (a1 : Int32) : Option (Int32 × HS) :=
  okb (hc w a0 == 9) ((FX9_bit w a0 a1).bind fun q1 =>
  (if a1 = (ha q1.2 a0 16 3) then ((FX9_ruleOf q1.2 a0 (118 : Int32) q1.1 (2 : Int32)).bind fun q6 =>
  (FX9_reads_30 q6.2 a0 a1 q1.1 q1.1 q6.1)) else
  (FX9_reads_30 q1.2 a0 a1 q1.1 q1.1 (-1 : Int32))))
set_option maxHeartbeats 4000000 in
set_option maxRecDepth 100000 in
theorem rX9_reads {ar : Nat → Nat → Nat} {c0 : Nat → Nat} {sz : Nat} {g : PH} {w w' : HS} {a0 : Nat} {a1 : Int32} {r : Int32} (P : Rel ar c0 sz g w) (hF : FX9_reads w a0 a1 = some (r, w')) : GR ar c0 sz r w' (fX9_reads g a0 a1) := by
  unfold FX9_reads at hF
  unfold fX9_reads
  replace hF := okb_some hF
  obtain ⟨h0, hF⟩ := hF
  replace h0 := P.cls h0
  refine GR.ok (P.rO h0 (by decide)) ?_
  replace hF := ob_some hF
  obtain ⟨q1, h2, hF⟩ := hF
  obtain ⟨g3, e4, P⟩ := rX9_bit (r := q1.1) (w' := q1.2) P h2
  refine GR.bind e4 ?_
  refine GR.bind (P.getRa (k := 16) h0 (by decide) (by decide) (by decide)) ?_
  refine GR.bind (P.dI (k := 16) (n := 3) h0 (by decide) (by decide) (by decide) (by decide) (by decide) (by decide)) ?_
  by_cases c5 : a1 = (ha q1.2 a0 16 3)
  · replace hF := ite_t c5 hF
    refine GR.t c5 ?_
    replace hF := ob_some hF
    obtain ⟨q6, h7, hF⟩ := hF
    obtain ⟨g8, e9, P⟩ := rX9_ruleOf (r := q6.1) (w' := q6.2) P h7
    refine GR.bind e9 ?_
    exact rX9_reads_30  h0 P hF
  replace hF := ite_f c5 hF
  refine GR.f c5 ?_
  exact rX9_reads_30  h0 P hF
def FX9_letterIn (w : HS) (a0 : Nat) : Option (Int32 × HS) :=
  okb (hc w a0 == 9) (if 0 ≤ (ha w a0 16 1) then ((FX9_ruleAt w a0 (ha w a0 16 1) (0 : Int32) (0 : Int32)).bind fun q2 =>
  (some (q2.1, q2.2))) else
  (some ((0 : Int32), w)))
set_option maxHeartbeats 4000000 in
set_option maxRecDepth 100000 in
theorem rX9_letterIn {ar : Nat → Nat → Nat} {c0 : Nat → Nat} {sz : Nat} {g : PH} {w w' : HS} {a0 : Nat} {r : Int32} (P : Rel ar c0 sz g w) (hF : FX9_letterIn w a0 = some (r, w')) : GR ar c0 sz r w' (fX9_letterIn g a0) := by
  unfold FX9_letterIn at hF
  unfold fX9_letterIn
  replace hF := okb_some hF
  obtain ⟨h0, hF⟩ := hF
  replace h0 := P.cls h0
  refine GR.ok (P.rO h0 (by decide)) ?_
  refine GR.bind (P.getRa (k := 16) h0 (by decide) (by decide) (by decide)) ?_
  refine GR.bind (P.dI (k := 16) (n := 1) h0 (by decide) (by decide) (by decide) (by decide) (by decide) (by decide)) ?_
  by_cases c1 : 0 ≤ (ha w a0 16 1)
  · replace hF := ite_t c1 hF
    refine GR.t c1 ?_
    refine GR.bind (P.getRa (k := 16) h0 (by decide) (by decide) (by decide)) ?_
    refine GR.bind (P.dI (k := 16) (n := 1) h0 (by decide) (by decide) (by decide) (by decide) (by decide) (by decide)) ?_
    replace hF := ob_some hF
    obtain ⟨q2, h3, hF⟩ := hF
    obtain ⟨g4, e5, P⟩ := rX9_ruleAt (r := q2.1) (w' := q2.2) P h3
    refine GR.bind e5 ?_
    obtain ⟨f1, f2⟩ := finW hF
    subst f1
    subst f2
    exact GR.ret P
  replace hF := ite_f c1 hF
  refine GR.f c1 ?_
  obtain ⟨f1, f2⟩ := finW hF
  subst f1
  subst f2
  exact GR.ret P
