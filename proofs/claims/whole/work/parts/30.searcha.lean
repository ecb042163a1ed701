def FX4_answerOf (w : HS) (a0 : Nat) (a1 : Int32) : Option (Int32 × HS) :=
  okb (hc w a0 == 4) (if a1 < 0 then (some ((-1 : Int32), w)) else
  (if (256 : Int32) ≤ a1 then (some ((-1 : Int32), w)) else
  (okb (inb a1 256) (some ((ha w a0 0 a1.toNatClampNeg), w)))))
set_option maxHeartbeats 4000000 in
set_option maxRecDepth 100000 in
theorem rX4_answerOf {ar : Nat → Nat → Nat} {c0 : Nat → Nat} {sz : Nat} {g : PH} {w w' : HS} {a0 : Nat} {a1 : Int32} {r : Int32} (P : Rel ar c0 sz g w) (hF : FX4_answerOf w a0 a1 = some (r, w')) : GR ar c0 sz r w' (fX4_answerOf g a0 a1) := by
  unfold FX4_answerOf at hF
  unfold fX4_answerOf
  replace hF := okb_some hF
  obtain ⟨h0, hF⟩ := hF
  replace h0 := P.cls h0
  refine GR.ok (P.rO h0 (by decide)) ?_
  by_cases c1 : a1 < 0
  · replace hF := ite_t c1 hF
    refine GR.t c1 ?_
    obtain ⟨f1, f2⟩ := finW hF
    subst f1
    subst f2
    exact GR.ret P
  replace hF := ite_f c1 hF
  refine GR.f c1 ?_
  refine GR.bind (P.getRa (k := 0) h0 (by decide) (by decide) (by decide)) ?_
  refine GR.bind (P.dN (k := 0) (j := (256 : Int32)) h0 (by decide) (by decide) (by decide) (by decide) (by decide)) ?_
  by_cases c2 : (256 : Int32) ≤ a1
  · replace hF := ite_t c2 hF
    refine GR.t c2 ?_
    obtain ⟨f1, f2⟩ := finW hF
    subst f1
    subst f2
    exact GR.ret P
  replace hF := ite_f c2 hF
  refine GR.f c2 ?_
  refine GR.bind (P.getRa (k := 0) h0 (by decide) (by decide) (by decide)) ?_
  replace hF := okb_some hF
  obtain ⟨h3, hF⟩ := hF
  refine GR.bind (P.dI (k := 0) (n := a1.toNatClampNeg) h0 (by decide) (by decide) (by decide) (by decide) h3 rfl) ?_
  obtain ⟨f1, f2⟩ := finW hF
  subst f1
  subst f2
  exact GR.ret P
def FX4_walkedOp (w : HS) (a0 : Nat) (a1 : Int32) (a2 : Int32) : Option (Int32 × HS) :=
  okb (hc w a0 == 4) (if a1 < 0 then (some ((-1 : Int32), w)) else
  (if (256 : Int32) ≤ a1 then (some ((-1 : Int32), w)) else
  (if a2 < 0 then (some ((-1 : Int32), w)) else
  (if a2 < (9 : Int32) then (okb (inb a1 256) (some (((((100 : Int32) * ((((hj w a0 1 (a1.toNatClampNeg)).toUInt64 >>> (((7 : Int32) * a2).toInt64.toUInt64 &&& Int64.toUInt64 63)).toInt64.toInt32 &&& (127 : Int32)) >>> ((3 : Int32) &&& 31))) + ((10 : Int32) * (((((hj w a0 1 (a1.toNatClampNeg)).toUInt64 >>> (((7 : Int32) * a2).toInt64.toUInt64 &&& Int64.toUInt64 63)).toInt64.toInt32 &&& (127 : Int32)) >>> ((2 : Int32) &&& 31)) &&& (1 : Int32)))) + ((((hj w a0 1 (a1.toNatClampNeg)).toUInt64 >>> (((7 : Int32) * a2).toInt64.toUInt64 &&& Int64.toUInt64 63)).toInt64.toInt32 &&& (127 : Int32)) &&& (3 : Int32))), w))) else
  (some ((-1 : Int32), w))))))
set_option maxHeartbeats 4000000 in
set_option maxRecDepth 100000 in
theorem rX4_walkedOp {ar : Nat → Nat → Nat} {c0 : Nat → Nat} {sz : Nat} {g : PH} {w w' : HS} {a0 : Nat} {a1 : Int32} {a2 : Int32} {r : Int32} (P : Rel ar c0 sz g w) (hF : FX4_walkedOp w a0 a1 a2 = some (r, w')) : GR ar c0 sz r w' (fX4_walkedOp g a0 a1 a2) := by
  unfold FX4_walkedOp at hF
  unfold fX4_walkedOp
  replace hF := okb_some hF
  obtain ⟨h0, hF⟩ := hF
  replace h0 := P.cls h0
  refine GR.ok (P.rO h0 (by decide)) ?_
  by_cases c1 : a1 < 0
  · replace hF := ite_t c1 hF
    refine GR.t c1 ?_
    obtain ⟨f1, f2⟩ := finW hF
    subst f1
    subst f2
    exact GR.ret P
  replace hF := ite_f c1 hF
  refine GR.f c1 ?_
  refine GR.bind (P.getRa (k := 1) h0 (by decide) (by decide) (by decide)) ?_
  refine GR.bind (P.dN (k := 1) (j := (256 : Int32)) h0 (by decide) (by decide) (by decide) (by decide) (by decide)) ?_
  by_cases c2 : (256 : Int32) ≤ a1
  · replace hF := ite_t c2 hF
    refine GR.t c2 ?_
    obtain ⟨f1, f2⟩ := finW hF
    subst f1
    subst f2
    exact GR.ret P
  replace hF := ite_f c2 hF
  refine GR.f c2 ?_
  by_cases c3 : a2 < 0
  · replace hF := ite_t c3 hF
    refine GR.t c3 ?_
    obtain ⟨f1, f2⟩ := finW hF
    subst f1
    subst f2
    exact GR.ret P
  replace hF := ite_f c3 hF
  refine GR.f c3 ?_
  by_cases c4 : a2 < (9 : Int32)
  · replace hF := ite_t c4 hF
    refine GR.t c4 ?_
    refine GR.bind (P.getRa (k := 1) h0 (by decide) (by decide) (by decide)) ?_
    replace hF := okb_some hF
    obtain ⟨h5, hF⟩ := hF
    refine GR.bind (P.dL (k := 1) (n := a1.toNatClampNeg) h0 (by decide) (by decide) (by decide) h5 rfl) ?_
    obtain ⟨f1, f2⟩ := finW hF
    subst f1
    subst f2
    exact GR.ret P
  replace hF := ite_f c4 hF
  refine GR.f c4 ?_
  obtain ⟨f1, f2⟩ := finW hF
  subst f1
  subst f2
  exact GR.ret P
def FX4_behindStep_139 (k21 : HS → Nat → Nat → Int32 → Int32 → Int32 → Int32 → Int32 → Int32 → Int32 → Option (Int32 × HS)) (w : HS) (v0 : Nat) (v1 : Nat) (v2 : Int32) (v3 : Int32) (v4 : Int32) (v6 : Int32) (v7 : Int32) (v9 : Int32) (s0 : Int32) : Option (Int32 × HS) :=
  k21 w v0 v1 v2 v3 v4 v6 v7 s0 (v9 + (1 : Int32))
set_option maxHeartbeats 4000000 in
set_option maxRecDepth 100000 in
theorem rX4_behindStep_139 {ar : Nat → Nat → Nat} {c0 : Nat → Nat} {sz : Nat} {r : Int32} {w' : HS} {k21 : HS → Nat → Nat → Int32 → Int32 → Int32 → Int32 → Int32 → Int32 → Int32 → Option (Int32 × HS)} {j21 : PH → Nat → Nat → Int32 → Int32 → Int32 → Int32 → Int32 → Int32 → Int32 → Option (Int32 × PH)} (hk21 : ∀ (g : PH) (w : HS) (v0 : Nat) (v1 : Nat) (v2 : Int32) (v3 : Int32) (v4 : Int32) (v6 : Int32) (v7 : Int32) (v8 : Int32) (v9 : Int32), c0 v0 = 4 → Rel ar c0 sz g w → k21 w v0 v1 v2 v3 v4 v6 v7 v8 v9 = some (r, w') → GR ar c0 sz r w' (j21 g v0 v1 v2 v3 v4 v6 v7 v8 v9)) {g : PH} {w : HS} {v0 : Nat} {v1 : Nat} {v2 : Int32} {v3 : Int32} {v4 : Int32} {v6 : Int32} {v7 : Int32} {v9 : Int32} {s0 : Int32} (h0 : c0 v0 = 4) (P : Rel ar c0 sz g w) (hF : FX4_behindStep_139 k21 w v0 v1 v2 v3 v4 v6 v7 v9 s0 = some (r, w')) : GR ar c0 sz r w' (fX4_behindStep_139 j21 g v0 v1 v2 v3 v4 v6 v7 v9 s0) := by
  unfold FX4_behindStep_139 at hF
  unfold fX4_behindStep_139
  exact hk21 _ _ _ _ _ _ _ _ _ _ _ h0 P hF
def FX4_behindStep_123 (k21 : HS → Nat → Nat → Int32 → Int32 → Int32 → Int32 → Int32 → Int32 → Int32 → Option (Int32 × HS)) (w : HS) (v0 : Nat) (v1 : Nat) (v2 : Int32) (v3 : Int32) (v4 : Int32) (v6 : Int32) (v8 : Int32) (v9 : Int32) (v10 : Int32) (s0 : Int32) : Option (Int32 × HS) :=
  if v10 = 0 then (FX4_behindStep_139 (k21) w v0 v1 v2 v3 v4 v6 s0 v9 v8) else
  (FX4_behindStep_139 (k21) w v0 v1 v2 v3 v4 v6 s0 v9 (v10 - (1 : Int32)))
set_option maxHeartbeats 4000000 in
set_option maxRecDepth 100000 in
theorem rX4_behindStep_123 {ar : Nat → Nat → Nat} {c0 : Nat → Nat} {sz : Nat} {r : Int32} {w' : HS} {k21 : HS → Nat → Nat → Int32 → Int32 → Int32 → Int32 → Int32 → Int32 → Int32 → Option (Int32 × HS)} {j21 : PH → Nat → Nat → Int32 → Int32 → Int32 → Int32 → Int32 → Int32 → Int32 → Option (Int32 × PH)} (hk21 : ∀ (g : PH) (w : HS) (v0 : Nat) (v1 : Nat) (v2 : Int32) (v3 : Int32) (v4 : Int32) (v6 : Int32) (v7 : Int32) (v8 : Int32) (v9 : Int32), c0 v0 = 4 → Rel ar c0 sz g w → k21 w v0 v1 v2 v3 v4 v6 v7 v8 v9 = some (r, w') → GR ar c0 sz r w' (j21 g v0 v1 v2 v3 v4 v6 v7 v8 v9)) {g : PH} {w : HS} {v0 : Nat} {v1 : Nat} {v2 : Int32} {v3 : Int32} {v4 : Int32} {v6 : Int32} {v8 : Int32} {v9 : Int32} {v10 : Int32} {s0 : Int32} (h0 : c0 v0 = 4) (P : Rel ar c0 sz g w) (hF : FX4_behindStep_123 k21 w v0 v1 v2 v3 v4 v6 v8 v9 v10 s0 = some (r, w')) : GR ar c0 sz r w' (fX4_behindStep_123 j21 g v0 v1 v2 v3 v4 v6 v8 v9 v10 s0) := by
  unfold FX4_behindStep_123 at hF
  unfold fX4_behindStep_123
  by_cases c1 : v10 = 0
  · replace hF := ite_t c1 hF
    refine GR.t c1 ?_
    exact rX4_behindStep_139 hk21 h0 P hF
  replace hF := ite_f c1 hF
  refine GR.f c1 ?_
  exact rX4_behindStep_139 hk21 h0 P hF
def FX4_behindStep_119 (k21 : HS → Nat → Nat → Int32 → Int32 → Int32 → Int32 → Int32 → Int32 → Int32 → Option (Int32 × HS)) (w : HS) (v0 : Nat) (v1 : Nat) (v2 : Int32) (v3 : Int32) (v4 : Int32) (v6 : Int32) (v8 : Int32) (v9 : Int32) (v10 : Int32) (v11 : Int32) : Option (Int32 × HS) :=
  FX4_behindStep_123 (k21) w v0 v1 v2 v3 v4 v6 v8 v9 v10 (v11 &&& (3 : Int32))
set_option maxHeartbeats 4000000 in
set_option maxRecDepth 100000 in
theorem rX4_behindStep_119 {ar : Nat → Nat → Nat} {c0 : Nat → Nat} {sz : Nat} {r : Int32} {w' : HS} {k21 : HS → Nat → Nat → Int32 → Int32 → Int32 → Int32 → Int32 → Int32 → Int32 → Option (Int32 × HS)} {j21 : PH → Nat → Nat → Int32 → Int32 → Int32 → Int32 → Int32 → Int32 → Int32 → Option (Int32 × PH)} (hk21 : ∀ (g : PH) (w : HS) (v0 : Nat) (v1 : Nat) (v2 : Int32) (v3 : Int32) (v4 : Int32) (v6 : Int32) (v7 : Int32) (v8 : Int32) (v9 : Int32), c0 v0 = 4 → Rel ar c0 sz g w → k21 w v0 v1 v2 v3 v4 v6 v7 v8 v9 = some (r, w') → GR ar c0 sz r w' (j21 g v0 v1 v2 v3 v4 v6 v7 v8 v9)) {g : PH} {w : HS} {v0 : Nat} {v1 : Nat} {v2 : Int32} {v3 : Int32} {v4 : Int32} {v6 : Int32} {v8 : Int32} {v9 : Int32} {v10 : Int32} {v11 : Int32} (h0 : c0 v0 = 4) (P : Rel ar c0 sz g w) (hF : FX4_behindStep_119 k21 w v0 v1 v2 v3 v4 v6 v8 v9 v10 v11 = some (r, w')) : GR ar c0 sz r w' (fX4_behindStep_119 j21 g v0 v1 v2 v3 v4 v6 v8 v9 v10 v11) := by
  unfold FX4_behindStep_119 at hF
  unfold fX4_behindStep_119
  exact rX4_behindStep_123 hk21 h0 P hF
def FX4_behindStep_92 (k21 : HS → Nat → Nat → Int32 → Int32 → Int32 → Int32 → Int32 → Int32 → Int32 → Option (Int32 × HS)) (w : HS) (v0 : Nat) (v1 : Nat) (v2 : Int32) (v3 : Int32) (v4 : Int32) (v6 : Int32) (v7 : Int32) (v8 : Int32) (v9 : Int32) (v10 : Int32) (s0 : Int32) (s1 : Nat) : Option (Int32 × HS) :=
  (FX1_outcomeOf w s1 s0 v10 v7).bind fun q1 =>
  (if v10 = 0 then (if (q1.1 >>> ((2 : Int32) &&& 31)) = v8 then (FX4_behindStep_119 (k21) q1.2 v0 v1 v2 v3 v4 v6 v8 v9 v10 q1.1) else
  (FX4_behindStep_123 (k21) q1.2 v0 v1 v2 v3 v4 v6 v8 v9 v10 (4 : Int32))) else
  (FX4_behindStep_119 (k21) q1.2 v0 v1 v2 v3 v4 v6 v8 v9 v10 q1.1))
set_option maxHeartbeats 4000000 in
set_option maxRecDepth 100000 in
theorem rX4_behindStep_92 {ar : Nat → Nat → Nat} {c0 : Nat → Nat} {sz : Nat} {r : Int32} {w' : HS} {k21 : HS → Nat → Nat → Int32 → Int32 → Int32 → Int32 → Int32 → Int32 → Int32 → Option (Int32 × HS)} {j21 : PH → Nat → Nat → Int32 → Int32 → Int32 → Int32 → Int32 → Int32 → Int32 → Option (Int32 × PH)} (hk21 : ∀ (g : PH) (w : HS) (v0 : Nat) (v1 : Nat) (v2 : Int32) (v3 : Int32) (v4 : Int32) (v6 : Int32) (v7 : Int32) (v8 : Int32) (v9 : Int32), c0 v0 = 4 → Rel ar c0 sz g w → k21 w v0 v1 v2 v3 v4 v6 v7 v8 v9 = some (r, w') → GR ar c0 sz r w' (j21 g v0 v1 v2 v3 v4 v6 v7 v8 v9)) {g : PH} {w : HS} {v0 : Nat} {v1 : Nat} {v2 : Int32} {v3 : Int32} {v4 : Int32} {v6 : Int32} {v7 : Int32} {v8 : Int32} {v9 : Int32} {v10 : Int32} {s0 : Int32} {s1 : Nat} (h0 : c0 v0 = 4) (P : Rel ar c0 sz g w) (hF : FX4_behindStep_92 k21 w v0 v1 v2 v3 v4 v6 v7 v8 v9 v10 s0 s1 = some (r, w')) : GR ar c0 sz r w' (fX4_behindStep_92 j21 g v0 v1 v2 v3 v4 v6 v7 v8 v9 v10 s0 s1) := by
  unfold FX4_behindStep_92 at hF
  unfold fX4_behindStep_92
  replace hF := ob_some hF
  obtain ⟨q1, h2, hF⟩ := hF
  obtain ⟨g3, e4, P⟩ := rX1_outcomeOf (r := q1.1) (w' := q1.2) P h2
  refine GR.bind e4 ?_
  by_cases c5 : v10 = 0
  · replace hF := ite_t c5 hF
    refine GR.t c5 ?_
    by_cases c6 : (q1.1 >>> ((2 : Int32) &&& 31)) = v8
    · replace hF := ite_t c6 hF
      refine GR.t c6 ?_
      exact rX4_behindStep_119 hk21 h0 P hF
    replace hF := ite_f c6 hF
    refine GR.f c6 ?_
    exact rX4_behindStep_123 hk21 h0 P hF
  replace hF := ite_f c5 hF
  refine GR.f c5 ?_
  exact rX4_behindStep_119 hk21 h0 P hF
def FX4_behindStep_73 (k21 : HS → Nat → Nat → Int32 → Int32 → Int32 → Int32 → Int32 → Int32 → Int32 → Option (Int32 × HS)) (w : HS) (v0 : Nat) (v1 : Nat) (v2 : Int32) (v3 : Int32) (v4 : Int32) (v6 : Int32) (v7 : Int32) (v8 : Int32) (v9 : Int32) (s0 : Int32) (s1 : Int32) (s2 : Nat) : Option (Int32 × HS) :=
  okb (hc w s2 == 4) (okb (inb (s1 + s0) 234) (if v6 ≤ v9 then (FX4_behindStep_92 (k21) w v0 v1 v2 v3 v4 v6 v7 v8 v9 (ha w s2 4 (s1 + s0).toNatClampNeg) ((1 : Int32) - v2) v1) else
  (FX4_behindStep_92 (k21) w v0 v1 v2 v3 v4 v6 v7 v8 v9 (ha w s2 4 (s1 + s0).toNatClampNeg) v2 v1)))
set_option maxHeartbeats 4000000 in
set_option maxRecDepth 100000 in
theorem rX4_behindStep_73 {ar : Nat → Nat → Nat} {c0 : Nat → Nat} {sz : Nat} {r : Int32} {w' : HS} {k21 : HS → Nat → Nat → Int32 → Int32 → Int32 → Int32 → Int32 → Int32 → Int32 → Option (Int32 × HS)} {j21 : PH → Nat → Nat → Int32 → Int32 → Int32 → Int32 → Int32 → Int32 → Int32 → Option (Int32 × PH)} (hk21 : ∀ (g : PH) (w : HS) (v0 : Nat) (v1 : Nat) (v2 : Int32) (v3 : Int32) (v4 : Int32) (v6 : Int32) (v7 : Int32) (v8 : Int32) (v9 : Int32), c0 v0 = 4 → Rel ar c0 sz g w → k21 w v0 v1 v2 v3 v4 v6 v7 v8 v9 = some (r, w') → GR ar c0 sz r w' (j21 g v0 v1 v2 v3 v4 v6 v7 v8 v9)) {g : PH} {w : HS} {v0 : Nat} {v1 : Nat} {v2 : Int32} {v3 : Int32} {v4 : Int32} {v6 : Int32} {v7 : Int32} {v8 : Int32} {v9 : Int32} {s0 : Int32} {s1 : Int32} {s2 : Nat} (h0 : c0 v0 = 4) (P : Rel ar c0 sz g w) (hF : FX4_behindStep_73 k21 w v0 v1 v2 v3 v4 v6 v7 v8 v9 s0 s1 s2 = some (r, w')) : GR ar c0 sz r w' (fX4_behindStep_73 j21 g v0 v1 v2 v3 v4 v6 v7 v8 v9 s0 s1 (ar s2 4)) := by
  unfold FX4_behindStep_73 at hF
  unfold fX4_behindStep_73
  replace hF := okb_some hF
  obtain ⟨h1, hF⟩ := hF
  replace h1 := P.cls h1
  replace hF := okb_some hF
  obtain ⟨h2, hF⟩ := hF
  refine GR.bind (P.dI (k := 4) (n := (s1 + s0).toNatClampNeg) h1 (by decide) (by decide) (by decide) (by decide) h2 rfl) ?_
  by_cases c3 : v6 ≤ v9
  · replace hF := ite_t c3 hF
    refine GR.t c3 ?_
    exact rX4_behindStep_92 hk21 h0 P hF
  replace hF := ite_f c3 hF
  refine GR.f c3 ?_
  exact rX4_behindStep_92 hk21 h0 P hF
def FX4_behindStep_48 (k21 : HS → Nat → Nat → Int32 → Int32 → Int32 → Int32 → Int32 → Int32 → Int32 → Option (Int32 × HS)) (w : HS) (v0 : Nat) (v1 : Nat) (v2 : Int32) (v3 : Int32) (v4 : Int32) (v6 : Int32) (v7 : Int32) (v8 : Int32) (v9 : Int32) : Option (Int32 × HS) :=
  if v6 ≤ v9 then (FX4_behindStep_73 (k21) w v0 v1 v2 v3 v4 v6 v7 v8 v9 (v9 - v6) (v4 * (3 : Int32)) v0) else
  (FX4_behindStep_73 (k21) w v0 v1 v2 v3 v4 v6 v7 v8 v9 v9 (v4 * (3 : Int32)) v0)
set_option maxHeartbeats 4000000 in
set_option maxRecDepth 100000 in
theorem rX4_behindStep_48 {ar : Nat → Nat → Nat} {c0 : Nat → Nat} {sz : Nat} {r : Int32} {w' : HS} {k21 : HS → Nat → Nat → Int32 → Int32 → Int32 → Int32 → Int32 → Int32 → Int32 → Option (Int32 × HS)} {j21 : PH → Nat → Nat → Int32 → Int32 → Int32 → Int32 → Int32 → Int32 → Int32 → Option (Int32 × PH)} (hk21 : ∀ (g : PH) (w : HS) (v0 : Nat) (v1 : Nat) (v2 : Int32) (v3 : Int32) (v4 : Int32) (v6 : Int32) (v7 : Int32) (v8 : Int32) (v9 : Int32), c0 v0 = 4 → Rel ar c0 sz g w → k21 w v0 v1 v2 v3 v4 v6 v7 v8 v9 = some (r, w') → GR ar c0 sz r w' (j21 g v0 v1 v2 v3 v4 v6 v7 v8 v9)) {g : PH} {w : HS} {v0 : Nat} {v1 : Nat} {v2 : Int32} {v3 : Int32} {v4 : Int32} {v6 : Int32} {v7 : Int32} {v8 : Int32} {v9 : Int32} (h0 : c0 v0 = 4) (P : Rel ar c0 sz g w) (hF : FX4_behindStep_48 k21 w v0 v1 v2 v3 v4 v6 v7 v8 v9 = some (r, w')) : GR ar c0 sz r w' (fX4_behindStep_48 j21 g v0 v1 v2 v3 v4 v6 v7 v8 v9) := by
  unfold FX4_behindStep_48 at hF
  unfold fX4_behindStep_48
  refine GR.bind (P.getRa (k := 4) h0 (by decide) (by decide) (by decide)) ?_
  by_cases c1 : v6 ≤ v9
  · replace hF := ite_t c1 hF
    refine GR.t c1 ?_
    exact rX4_behindStep_73 hk21 h0 P hF
  replace hF := ite_f c1 hF
  refine GR.f c1 ?_
  exact rX4_behindStep_73 hk21 h0 P hF
def FX4_behindStep_21  : Nat → HS → Nat → Nat → Int32 → Int32 → Int32 → Int32 → Int32 → Int32 → Int32 → Option (Int32 × HS)
  | 0, _, _, _, _, _, _, _, _, _, _ => none
  | n + 1, w, v0, v1, v2, v3, v4, v6, v7, v8, v9 =>
  if ((2 : Int32) * v6) ≤ v9 then (some (v7, w)) else
  (if v7 = (4 : Int32) then (some (v7, w)) else
  (if v9 = v6 then (FX4_behindStep_48 (FX4_behindStep_21 n) w v0 v1 v2 v3 v4 v6 v7 (v3 - (1 : Int32)) v9) else
  (FX4_behindStep_48 (FX4_behindStep_21 n) w v0 v1 v2 v3 v4 v6 v7 v8 v9)))
set_option maxHeartbeats 4000000 in
set_option maxRecDepth 100000 in
theorem rX4_behindStep_21 {ar : Nat → Nat → Nat} {c0 : Nat → Nat} {sz : Nat} {r : Int32} {w' : HS}   : ∀ (n : Nat) (g : PH) (w : HS) (v0 : Nat) (v1 : Nat) (v2 : Int32) (v3 : Int32) (v4 : Int32) (v6 : Int32) (v7 : Int32) (v8 : Int32) (v9 : Int32), c0 v0 = 4 → Rel ar c0 sz g w → FX4_behindStep_21  n w v0 v1 v2 v3 v4 v6 v7 v8 v9 = some (r, w') → GR ar c0 sz r w' (fX4_behindStep_21  n g v0 v1 v2 v3 v4 v6 v7 v8 v9) := by
  intro n
  induction n with
  | zero =>
    intro g w v0 v1 v2 v3 v4 v6 v7 v8 v9 h0 P hF
    rw [FX4_behindStep_21] at hF
    cases hF
  | succ n ih =>
    intro g w v0 v1 v2 v3 v4 v6 v7 v8 v9 h0 P hF
    rw [FX4_behindStep_21] at hF
    rw [fX4_behindStep_21]
    by_cases c1 : ((2 : Int32) * v6) ≤ v9
    · replace hF := ite_t c1 hF
      refine GR.t c1 ?_
      obtain ⟨f1, f2⟩ := finW hF
      subst f1
      subst f2
      exact GR.ret P
    replace hF := ite_f c1 hF
    refine GR.f c1 ?_
    by_cases c2 : v7 = (4 : Int32)
    · replace hF := ite_t c2 hF
      refine GR.t c2 ?_
      obtain ⟨f1, f2⟩ := finW hF
      subst f1
      subst f2
      exact GR.ret P
    replace hF := ite_f c2 hF
    refine GR.f c2 ?_
    by_cases c3 : v9 = v6
    · replace hF := ite_t c3 hF
      refine GR.t c3 ?_
      exact rX4_behindStep_48 ih h0 P hF
    replace hF := ite_f c3 hF
    refine GR.f c3 ?_
    exact rX4_behindStep_48 ih h0 P hF
def FX4_behindStep (w : HS) (a0 : Nat) (a1 : Nat) (a2 : Int32) (a3 : Int32) (a4 : Int32) (a5 : Int32) : Option (Int32 × HS) :=
  okb (hc w a0 == 4) (okb (inb a4 78) (FX4_behindStep_21 FUEL w a0 a1 a2 a3 a4 (ha w a0 2 a4.toNatClampNeg) a5 (a3 - (1 : Int32)) (0 : Int32)))
set_option maxHeartbeats 4000000 in
set_option maxRecDepth 100000 in
theorem rX4_behindStep {ar : Nat → Nat → Nat} {c0 : Nat → Nat} {sz : Nat} {g : PH} {w w' : HS} {a0 : Nat} {a1 : Nat} {a2 : Int32} {a3 : Int32} {a4 : Int32} {a5 : Int32} {r : Int32} (P : Rel ar c0 sz g w) (hF : FX4_behindStep w a0 a1 a2 a3 a4 a5 = some (r, w')) : GR ar c0 sz r w' (fX4_behindStep g a0 a1 a2 a3 a4 a5) := by
  unfold FX4_behindStep at hF
  unfold fX4_behindStep
  replace hF := okb_some hF
  obtain ⟨h0, hF⟩ := hF
  replace h0 := P.cls h0
  refine GR.ok (P.rO h0 (by decide)) ?_
  refine GR.bind (P.getRa (k := 2) h0 (by decide) (by decide) (by decide)) ?_
  replace hF := okb_some hF
  obtain ⟨h1, hF⟩ := hF
  refine GR.bind (P.dI (k := 2) (n := a4.toNatClampNeg) h0 (by decide) (by decide) (by decide) (by decide) h1 rfl) ?_
  exact rX4_behindStep_21  _ _ _ _ _ _ _ _ _ _ _ _ h0 P hF
def FX4_moveOf_23  : Nat → HS → Nat → Nat → Int32 → Int32 → Int32 → Int32 → Int32 → Option (Int32 × HS)
  | 0, _, _, _, _, _, _, _, _ => none
  | n + 1, w, v0, v1, v2, v3, v4, v5, v6 =>
  if (4 : Int32) ≤ v6 then (some (v4, w)) else
  ((FX4_behindStep w v0 v1 v5 v2 v3 v6).bind fun q2 =>
  ((FX4_behindStep q2.2 v0 v1 ((1 : Int32) - v5) v2 v3 v6).bind fun q6 =>
  (FX4_moveOf_23 n q6.2 v0 v1 v2 v3 ((v4 ||| (q2.1 <<< (((3 : Int32) * v6) &&& 31))) ||| (q6.1 <<< (((15 : Int32) + ((3 : Int32) * v6)) &&& 31))) v5 (v6 + (1 : Int32)))))
set_option maxHeartbeats 4000000 in
set_option maxRecDepth 100000 in
theorem rX4_moveOf_23 {ar : Nat → Nat → Nat} {c0 : Nat → Nat} {sz : Nat} {r : Int32} {w' : HS}   : ∀ (n : Nat) (g : PH) (w : HS) (v0 : Nat) (v1 : Nat) (v2 : Int32) (v3 : Int32) (v4 : Int32) (v5 : Int32) (v6 : Int32), c0 v0 = 4 → Rel ar c0 sz g w → FX4_moveOf_23  n w v0 v1 v2 v3 v4 v5 v6 = some (r, w') → GR ar c0 sz r w' (fX4_moveOf_23  n g v0 v1 v2 v3 v4 v5 v6) := by
  intro n
  induction n with
  | zero =>
    intro g w v0 v1 v2 v3 v4 v5 v6 h0 P hF
    rw [FX4_moveOf_23] at hF
    cases hF
  | succ n ih =>
    intro g w v0 v1 v2 v3 v4 v5 v6 h0 P hF
    rw [FX4_moveOf_23] at hF
    rw [fX4_moveOf_23]
    by_cases c1 : (4 : Int32) ≤ v6
    · replace hF := ite_t c1 hF
      refine GR.t c1 ?_
      obtain ⟨f1, f2⟩ := finW hF
      subst f1
      subst f2
      exact GR.ret P
    replace hF := ite_f c1 hF
    refine GR.f c1 ?_
    replace hF := ob_some hF
    obtain ⟨q2, h3, hF⟩ := hF
    obtain ⟨g4, e5, P⟩ := rX4_behindStep (r := q2.1) (w' := q2.2) P h3
    refine GR.bind e5 ?_
    replace hF := ob_some hF
    obtain ⟨q6, h7, hF⟩ := hF
    obtain ⟨g8, e9, P⟩ := rX4_behindStep (r := q6.1) (w' := q6.2) P h7
    refine GR.bind e9 ?_
    exact ih _ _ _ _ _ _ _ _ _ h0 P hF
def FX4_moveOf_18  (w : HS) (v0 : Nat) (v1 : Nat) (v2 : Int32) (v3 : Int32) (v4 : Int32) (s0 : Int32) : Option (Int32 × HS) :=
  FX4_moveOf_23 FUEL w v0 v1 v2 v3 v4 s0 (0 : Int32)
set_option maxHeartbeats 4000000 in
set_option maxRecDepth 100000 in
theorem rX4_moveOf_18 {ar : Nat → Nat → Nat} {c0 : Nat → Nat} {sz : Nat} {r : Int32} {w' : HS}   {g : PH} {w : HS} {v0 : Nat} {v1 : Nat} {v2 : Int32} {v3 : Int32} {v4 : Int32} {s0 : Int32} (h0 : c0 v0 = 4) (P : Rel ar c0 sz g w) (hF : FX4_moveOf_18  w v0 v1 v2 v3 v4 s0 = some (r, w')) : GR ar c0 sz r w' (fX4_moveOf_18  g v0 v1 v2 v3 v4 s0) := by
  unfold FX4_moveOf_18 at hF
  unfold fX4_moveOf_18
  exact rX4_moveOf_23  _ _ _ _ _ _ _ _ _ _ h0 P hF
def FX4_moveOf (w : HS) (a0 : Nat) (a1 : Nat) (a2 : Int32) (a3 : Int32) : Option (Int32 × HS) :=
  okb (hc w a0 == 4) (okb (inb a3 78) (if (ha w a0 3 a3.toNatClampNeg) = 0 then (FX4_moveOf_18 w a0 a1 a2 a3 (536887296 : Int32) (1 : Int32)) else
  (FX4_moveOf_18 w a0 a1 a2 a3 (536887296 : Int32) (0 : Int32))))
set_option maxHeartbeats 4000000 in
set_option maxRecDepth 100000 in
theorem rX4_moveOf {ar : Nat → Nat → Nat} {c0 : Nat → Nat} {sz : Nat} {g : PH} {w w' : HS} {a0 : Nat} {a1 : Nat} {a2 : Int32} {a3 : Int32} {r : Int32} (P : Rel ar c0 sz g w) (hF : FX4_moveOf w a0 a1 a2 a3 = some (r, w')) : GR ar c0 sz r w' (fX4_moveOf g a0 a1 a2 a3) := by
  unfold FX4_moveOf at hF
  unfold fX4_moveOf
  replace hF := okb_some hF
  obtain ⟨h0, hF⟩ := hF
  replace h0 := P.cls h0
  refine GR.ok (P.rO h0 (by decide)) ?_
  refine GR.bind (P.getRa (k := 3) h0 (by decide) (by decide) (by decide)) ?_
  replace hF := okb_some hF
  obtain ⟨h1, hF⟩ := hF
  refine GR.bind (P.dI (k := 3) (n := a3.toNatClampNeg) h0 (by decide) (by decide) (by decide) (by decide) h1 rfl) ?_
  by_cases c2 : (ha w a0 3 a3.toNatClampNeg) = 0
  · replace hF := ite_t c2 hF
    refine GR.t c2 ?_
    exact rX4_moveOf_18  h0 P hF
  replace hF := ite_f c2 hF
  refine GR.f c2 ?_
  exact rX4_moveOf_18  h0 P hF
def FX4_learn_97 (k27 : HS → Nat → Int32 → Nat → Int32 → Option (Unit × HS)) (k35 : HS → Nat → Int32 → Nat → Int32 → Int32 → Option (Unit × HS)) (w : HS) (v0 : Nat) (v1 : Int32) (v2 : Nat) (v3 : Int32) (v4 : Int32) (s0 : Int32) (s1 : Int32) (s2 : Nat) : Option (Unit × HS) :=
  okb (hc w s2 == 4) (okb (inb s1 1872) (bnd (setA w s2 5 s1.toNatClampNeg s0) fun w5 =>
  (k35 w5 v0 v1 v2 v3 (v4 + (1 : Int32)))))
set_option maxHeartbeats 4000000 in
set_option maxRecDepth 100000 in
theorem rX4_learn_97 {ar : Nat → Nat → Nat} {c0 : Nat → Nat} {sz : Nat} {r : Unit} {w' : HS} {k27 : HS → Nat → Int32 → Nat → Int32 → Option (Unit × HS)} {j27 : PH → Nat → Int32 → Nat → Int32 → Option (Unit × PH)} {k35 : HS → Nat → Int32 → Nat → Int32 → Int32 → Option (Unit × HS)} {j35 : PH → Nat → Int32 → Nat → Int32 → Int32 → Option (Unit × PH)} (hk27 : ∀ (g : PH) (w : HS) (v0 : Nat) (v1 : Int32) (v2 : Nat) (v3 : Int32), c0 v0 = 4 → Rel ar c0 sz g w → k27 w v0 v1 v2 v3 = some (r, w') → GR ar c0 sz r w' (j27 g v0 v1 v2 v3)) (hk35 : ∀ (g : PH) (w : HS) (v0 : Nat) (v1 : Int32) (v2 : Nat) (v3 : Int32) (v4 : Int32), c0 v0 = 4 → Rel ar c0 sz g w → k35 w v0 v1 v2 v3 v4 = some (r, w') → GR ar c0 sz r w' (j35 g v0 v1 v2 v3 v4)) {g : PH} {w : HS} {v0 : Nat} {v1 : Int32} {v2 : Nat} {v3 : Int32} {v4 : Int32} {s0 : Int32} {s1 : Int32} {s2 : Nat} (h0 : c0 v0 = 4) (P : Rel ar c0 sz g w) (hF : FX4_learn_97 k27 k35 w v0 v1 v2 v3 v4 s0 s1 s2 = some (r, w')) : GR ar c0 sz r w' (fX4_learn_97 j27 j35 g v0 v1 v2 v3 v4 s0 s1 (ar s2 5)) := by
  unfold FX4_learn_97 at hF
  unfold fX4_learn_97
  replace hF := okb_some hF
  obtain ⟨h1, hF⟩ := hF
  replace h1 := P.cls h1
  replace hF := okb_some hF
  obtain ⟨h2, hF⟩ := hF
  replace hF := bnd_e hF
  obtain ⟨w5, e6, hF⟩ := hF
  obtain ⟨g3, e4, P⟩ := P.sI (k := 5) (kd := 0) (j := s1) h1 (by decide) (by decide) (by decide) (by decide) h2 rfl e6
  refine GR.bind e4 ?_
  exact hk35 _ _ _ _ _ _ _ h0 P hF
def FX4_learn_63 (k27 : HS → Nat → Int32 → Nat → Int32 → Option (Unit × HS)) (k35 : HS → Nat → Int32 → Nat → Int32 → Int32 → Option (Unit × HS)) (w : HS) (v0 : Nat) (v1 : Int32) (v2 : Nat) (v3 : Int32) (v4 : Int32) (s0 : Int32) : Option (Unit × HS) :=
  if s0 = 0 then ((FX4_moveOf w v0 v2 v3 v4).bind fun q2 =>
  (FX4_learn_97 (k27) (k35) q2.2 v0 v1 v2 v3 v4 q2.1 ((((v1 * (3 : Int32)) + v3) * (78 : Int32)) + v4) v0)) else
  (FX4_learn_97 (k27) (k35) w v0 v1 v2 v3 v4 (-1 : Int32) ((((v1 * (3 : Int32)) + v3) * (78 : Int32)) + v4) v0)
set_option maxHeartbeats 4000000 in
set_option maxRecDepth 100000 in
theorem rX4_learn_63 {ar : Nat → Nat → Nat} {c0 : Nat → Nat} {sz : Nat} {r : Unit} {w' : HS} {k27 : HS → Nat → Int32 → Nat → Int32 → Option (Unit × HS)} {j27 : PH → Nat → Int32 → Nat → Int32 → Option (Unit × PH)} {k35 : HS → Nat → Int32 → Nat → Int32 → Int32 → Option (Unit × HS)} {j35 : PH → Nat → Int32 → Nat → Int32 → Int32 → Option (Unit × PH)} (hk27 : ∀ (g : PH) (w : HS) (v0 : Nat) (v1 : Int32) (v2 : Nat) (v3 : Int32), c0 v0 = 4 → Rel ar c0 sz g w → k27 w v0 v1 v2 v3 = some (r, w') → GR ar c0 sz r w' (j27 g v0 v1 v2 v3)) (hk35 : ∀ (g : PH) (w : HS) (v0 : Nat) (v1 : Int32) (v2 : Nat) (v3 : Int32) (v4 : Int32), c0 v0 = 4 → Rel ar c0 sz g w → k35 w v0 v1 v2 v3 v4 = some (r, w') → GR ar c0 sz r w' (j35 g v0 v1 v2 v3 v4)) {g : PH} {w : HS} {v0 : Nat} {v1 : Int32} {v2 : Nat} {v3 : Int32} {v4 : Int32} {s0 : Int32} (h0 : c0 v0 = 4) (P : Rel ar c0 sz g w) (hF : FX4_learn_63 k27 k35 w v0 v1 v2 v3 v4 s0 = some (r, w')) : GR ar c0 sz r w' (fX4_learn_63 j27 j35 g v0 v1 v2 v3 v4 s0) := by
  unfold FX4_learn_63 at hF
  unfold fX4_learn_63
  refine GR.bind (P.getRa (k := 5) h0 (by decide) (by decide) (by decide)) ?_
  by_cases c1 : s0 = 0
  · replace hF := ite_t c1 hF
    refine GR.t c1 ?_
    replace hF := ob_some hF
    obtain ⟨q2, h3, hF⟩ := hF
    obtain ⟨g4, e5, P⟩ := rX4_moveOf (r := q2.1) (w' := q2.2) P h3
    refine GR.bind e5 ?_
    exact rX4_learn_97 hk27 hk35 h0 P hF
  replace hF := ite_f c1 hF
  refine GR.f c1 ?_
  exact rX4_learn_97 hk27 hk35 h0 P hF
def FX4_learn_62 (k27 : HS → Nat → Int32 → Nat → Int32 → Option (Unit × HS)) (k35 : HS → Nat → Int32 → Nat → Int32 → Int32 → Option (Unit × HS)) (w : HS) (v0 : Nat) (v1 : Int32) (v2 : Nat) (v3 : Int32) (v4 : Int32) : Option (Unit × HS) :=
  FX4_learn_63 (k27) (k35) w v0 v1 v2 v3 v4 (0 : Int32)
set_option maxHeartbeats 4000000 in
set_option maxRecDepth 100000 in
theorem rX4_learn_62 {ar : Nat → Nat → Nat} {c0 : Nat → Nat} {sz : Nat} {r : Unit} {w' : HS} {k27 : HS → Nat → Int32 → Nat → Int32 → Option (Unit × HS)} {j27 : PH → Nat → Int32 → Nat → Int32 → Option (Unit × PH)} {k35 : HS → Nat → Int32 → Nat → Int32 → Int32 → Option (Unit × HS)} {j35 : PH → Nat → Int32 → Nat → Int32 → Int32 → Option (Unit × PH)} (hk27 : ∀ (g : PH) (w : HS) (v0 : Nat) (v1 : Int32) (v2 : Nat) (v3 : Int32), c0 v0 = 4 → Rel ar c0 sz g w → k27 w v0 v1 v2 v3 = some (r, w') → GR ar c0 sz r w' (j27 g v0 v1 v2 v3)) (hk35 : ∀ (g : PH) (w : HS) (v0 : Nat) (v1 : Int32) (v2 : Nat) (v3 : Int32) (v4 : Int32), c0 v0 = 4 → Rel ar c0 sz g w → k35 w v0 v1 v2 v3 v4 = some (r, w') → GR ar c0 sz r w' (j35 g v0 v1 v2 v3 v4)) {g : PH} {w : HS} {v0 : Nat} {v1 : Int32} {v2 : Nat} {v3 : Int32} {v4 : Int32} (h0 : c0 v0 = 4) (P : Rel ar c0 sz g w) (hF : FX4_learn_62 k27 k35 w v0 v1 v2 v3 v4 = some (r, w')) : GR ar c0 sz r w' (fX4_learn_62 j27 j35 g v0 v1 v2 v3 v4) := by
  unfold FX4_learn_62 at hF
  unfold fX4_learn_62
  exact rX4_learn_63 hk27 hk35 h0 P hF
def FX4_learn_35 (k27 : HS → Nat → Int32 → Nat → Int32 → Option (Unit × HS)) : Nat → HS → Nat → Int32 → Nat → Int32 → Int32 → Option (Unit × HS)
  | 0, _, _, _, _, _, _ => none
  | n + 1, w, v0, v1, v2, v3, v4 =>
  if (78 : Int32) ≤ v4 then (k27 w v0 v1 v2 (v3 + (1 : Int32))) else
  (if v3 = 0 then (okb (inb (v4 * (3 : Int32)) 234) (if (ha w v0 4 (v4 * (3 : Int32)).toNatClampNeg) = 0 then (FX4_learn_63 (k27) (FX4_learn_35 k27 n) w v0 v1 v2 v3 v4 (1 : Int32)) else
  (FX4_learn_62 (k27) (FX4_learn_35 k27 n) w v0 v1 v2 v3 v4))) else
  (FX4_learn_62 (k27) (FX4_learn_35 k27 n) w v0 v1 v2 v3 v4))
set_option maxHeartbeats 4000000 in
set_option maxRecDepth 100000 in
theorem rX4_learn_35 {ar : Nat → Nat → Nat} {c0 : Nat → Nat} {sz : Nat} {r : Unit} {w' : HS} {k27 : HS → Nat → Int32 → Nat → Int32 → Option (Unit × HS)} {j27 : PH → Nat → Int32 → Nat → Int32 → Option (Unit × PH)} (hk27 : ∀ (g : PH) (w : HS) (v0 : Nat) (v1 : Int32) (v2 : Nat) (v3 : Int32), c0 v0 = 4 → Rel ar c0 sz g w → k27 w v0 v1 v2 v3 = some (r, w') → GR ar c0 sz r w' (j27 g v0 v1 v2 v3)) : ∀ (n : Nat) (g : PH) (w : HS) (v0 : Nat) (v1 : Int32) (v2 : Nat) (v3 : Int32) (v4 : Int32), c0 v0 = 4 → Rel ar c0 sz g w → FX4_learn_35 k27 n w v0 v1 v2 v3 v4 = some (r, w') → GR ar c0 sz r w' (fX4_learn_35 j27 n g v0 v1 v2 v3 v4) := by
  intro n
  induction n with
  | zero =>
    intro g w v0 v1 v2 v3 v4 h0 P hF
    rw [FX4_learn_35] at hF
    cases hF
  | succ n ih =>
    intro g w v0 v1 v2 v3 v4 h0 P hF
    rw [FX4_learn_35] at hF
    rw [fX4_learn_35]
    by_cases c1 : (78 : Int32) ≤ v4
    · replace hF := ite_t c1 hF
      refine GR.t c1 ?_
      exact hk27 _ _ _ _ _ _ h0 P hF
    replace hF := ite_f c1 hF
    refine GR.f c1 ?_
    by_cases c2 : v3 = 0
    · replace hF := ite_t c2 hF
      refine GR.t c2 ?_
      refine GR.bind (P.getRa (k := 4) h0 (by decide) (by decide) (by decide)) ?_
      replace hF := okb_some hF
      obtain ⟨h3, hF⟩ := hF
      refine GR.bind (P.dI (k := 4) (n := (v4 * (3 : Int32)).toNatClampNeg) h0 (by decide) (by decide) (by decide) (by decide) h3 rfl) ?_
      by_cases c4 : (ha w v0 4 (v4 * (3 : Int32)).toNatClampNeg) = 0
      · replace hF := ite_t c4 hF
        refine GR.t c4 ?_
        exact rX4_learn_63 hk27 ih h0 P hF
      replace hF := ite_f c4 hF
      refine GR.f c4 ?_
      exact rX4_learn_62 hk27 ih h0 P hF
    replace hF := ite_f c2 hF
    refine GR.f c2 ?_
    exact rX4_learn_62 hk27 ih h0 P hF
def FX4_learn_27  : Nat → HS → Nat → Int32 → Nat → Int32 → Option (Unit × HS)
  | 0, _, _, _, _, _ => none
  | n + 1, w, v0, v1, v2, v3 =>
  if (3 : Int32) ≤ v3 then (some ((), w)) else
  (FX4_learn_35 (FX4_learn_27 n) FUEL w v0 v1 v2 v3 (0 : Int32))
set_option maxHeartbeats 4000000 in
set_option maxRecDepth 100000 in
theorem rX4_learn_27 {ar : Nat → Nat → Nat} {c0 : Nat → Nat} {sz : Nat} {r : Unit} {w' : HS}   : ∀ (n : Nat) (g : PH) (w : HS) (v0 : Nat) (v1 : Int32) (v2 : Nat) (v3 : Int32), c0 v0 = 4 → Rel ar c0 sz g w → FX4_learn_27  n w v0 v1 v2 v3 = some (r, w') → GR ar c0 sz r w' (fX4_learn_27  n g v0 v1 v2 v3) := by
  intro n
  induction n with
  | zero =>
    intro g w v0 v1 v2 v3 h0 P hF
    rw [FX4_learn_27] at hF
    cases hF
  | succ n ih =>
    intro g w v0 v1 v2 v3 h0 P hF
    rw [FX4_learn_27] at hF
    rw [fX4_learn_27]
    by_cases c1 : (3 : Int32) ≤ v3
    · replace hF := ite_t c1 hF
      refine GR.t c1 ?_
      obtain ⟨f1, f2⟩ := finW hF
      subst f1
      subst f2
      exact GR.ret P
    replace hF := ite_f c1 hF
    refine GR.f c1 ?_
    exact rX4_learn_35 ih _ _ _ _ _ _ _ _ h0 P hF
def FX4_learn (w : HS) (a0 : Nat) (a1 : Int32) (a2 : Nat) : Option (Unit × HS) :=
  okb (hc w a0 == 4) (if (((hi w a0 6) >>> (a1 &&& 31)) &&& (1 : Int32)) = (1 : Int32) then (some ((), w)) else
  (bnd (setI w a0 6 ((hi w a0 6) ||| ((1 : Int32) <<< (a1 &&& 31)))) fun w2 =>
  (FX4_learn_27 FUEL w2 a0 a1 a2 (0 : Int32))))
set_option maxHeartbeats 4000000 in
set_option maxRecDepth 100000 in
theorem rX4_learn {ar : Nat → Nat → Nat} {c0 : Nat → Nat} {sz : Nat} {g : PH} {w w' : HS} {a0 : Nat} {a1 : Int32} {a2 : Nat} {r : Unit} (P : Rel ar c0 sz g w) (hF : FX4_learn w a0 a1 a2 = some (r, w')) : GR ar c0 sz r w' (fX4_learn g a0 a1 a2) := by
  unfold FX4_learn at hF
  unfold fX4_learn
  replace hF := okb_some hF
  obtain ⟨h0, hF⟩ := hF
  replace h0 := P.cls h0
  refine GR.ok (P.rO h0 (by decide)) ?_
  refine GR.bind (P.rI (k := 6) h0 (by decide) (by decide) (by decide)) ?_
  by_cases c1 : (((hi w a0 6) >>> (a1 &&& 31)) &&& (1 : Int32)) = (1 : Int32)
  · replace hF := ite_t c1 hF
    refine GR.t c1 ?_
    obtain ⟨f1, f2⟩ := finW hF
    subst f1
    subst f2
    exact GR.ret P
  replace hF := ite_f c1 hF
  refine GR.f c1 ?_
  refine GR.bind (P.rI (k := 6) h0 (by decide) (by decide) (by decide)) ?_
  replace hF := bnd_e hF
  obtain ⟨w2, e3, hF⟩ := hF
  obtain ⟨g4, e5, P⟩ := P.putI (k := 6) h0 (by decide) (by decide) (by decide) e3
  refine GR.bind e5 ?_
  exact rX4_learn_27  _ _ _ _ _ _ _ h0 P hF
def FX4_firstCode_4  : Nat → HS → Nat → Int32 → Int32 → Option (Int32 × HS)
  | 0, _, _, _, _ => none
  | n + 1, w, v0, v1, v2 =>
  if (8 : Int32) ≤ v2 then (some (v1, w)) else
  ((FX1_settledFrom w v0 (v2 &&& (3 : Int32))).bind fun q2 =>
  (FX4_firstCode_4 n q2.2 v0 (v1 ||| (q2.1 <<< (((3 : Int32) * v2) &&& 31))) (v2 + (1 : Int32))))
set_option maxHeartbeats 4000000 in
set_option maxRecDepth 100000 in
theorem rX4_firstCode_4 {ar : Nat → Nat → Nat} {c0 : Nat → Nat} {sz : Nat} {r : Int32} {w' : HS}   : ∀ (n : Nat) (g : PH) (w : HS) (v0 : Nat) (v1 : Int32) (v2 : Int32), Rel ar c0 sz g w → FX4_firstCode_4  n w v0 v1 v2 = some (r, w') → GR ar c0 sz r w' (fX4_firstCode_4  n g v0 v1 v2) := by
  intro n
  induction n with
  | zero =>
    intro g w v0 v1 v2 P hF
    rw [FX4_firstCode_4] at hF
    cases hF
  | succ n ih =>
    intro g w v0 v1 v2 P hF
    rw [FX4_firstCode_4] at hF
    rw [fX4_firstCode_4]
    by_cases c1 : (8 : Int32) ≤ v2
    · replace hF := ite_t c1 hF
      refine GR.t c1 ?_
      obtain ⟨f1, f2⟩ := finW hF
      subst f1
      subst f2
      exact GR.ret P
    replace hF := ite_f c1 hF
    refine GR.f c1 ?_
    replace hF := ob_some hF
    obtain ⟨q2, h3, hF⟩ := hF
    obtain ⟨g4, e5, P⟩ := rX1_settledFrom (r := q2.1) (w' := q2.2) P h3
    refine GR.bind e5 ?_
    exact ih _ _ _ _ _ P hF
def FX4_firstCode (w : HS) (a0 : Nat) : Option (Int32 × HS) :=
  FX4_firstCode_4 FUEL w a0 (0 : Int32) (0 : Int32)
set_option maxHeartbeats 4000000 in
set_option maxRecDepth 100000 in
theorem rX4_firstCode {ar : Nat → Nat → Nat} {c0 : Nat → Nat} {sz : Nat} {g : PH} {w w' : HS} {a0 : Nat} {r : Int32} (P : Rel ar c0 sz g w) (hF : FX4_firstCode w a0 = some (r, w')) : GR ar c0 sz r w' (fX4_firstCode g a0) := by
  unfold FX4_firstCode at hF
  unfold fX4_firstCode
  exact rX4_firstCode_4  _ _ _ _ _ _ P hF
def FX4_isSame_19  : Nat → HS → Nat → Int32 → Int32 → Int32 → Option (Int32 × HS)
  | 0, _, _, _, _, _ => none
  | n + 1, w, v0, v1, v2, v3 =>
  if (hi w v0 8) ≤ v3 then (some ((1 : Int32), w)) else
  (okb (inb ((v1 * (8 : Int32)) + v3) 9608) (okb (inb ((v2 * (8 : Int32)) + v3) 9608) (if (ha w v0 10 ((v1 * (8 : Int32)) + v3).toNatClampNeg) = (ha w v0 10 ((v2 * (8 : Int32)) + v3).toNatClampNeg) then (FX4_isSame_19 n w v0 v1 v2 (v3 + (1 : Int32))) else
  (some ((0 : Int32), w)))))
set_option maxHeartbeats 4000000 in
set_option maxRecDepth 100000 in
theorem rX4_isSame_19 {ar : Nat → Nat → Nat} {c0 : Nat → Nat} {sz : Nat} {r : Int32} {w' : HS}   : ∀ (n : Nat) (g : PH) (w : HS) (v0 : Nat) (v1 : Int32) (v2 : Int32) (v3 : Int32), c0 v0 = 4 → Rel ar c0 sz g w → FX4_isSame_19  n w v0 v1 v2 v3 = some (r, w') → GR ar c0 sz r w' (fX4_isSame_19  n g v0 v1 v2 v3) := by
  intro n
  induction n with
  | zero =>
    intro g w v0 v1 v2 v3 h0 P hF
    rw [FX4_isSame_19] at hF
    cases hF
  | succ n ih =>
    intro g w v0 v1 v2 v3 h0 P hF
    rw [FX4_isSame_19] at hF
    rw [fX4_isSame_19]
    refine GR.bind (P.rI (k := 8) h0 (by decide) (by decide) (by decide)) ?_
    by_cases c1 : (hi w v0 8) ≤ v3
    · replace hF := ite_t c1 hF
      refine GR.t c1 ?_
      obtain ⟨f1, f2⟩ := finW hF
      subst f1
      subst f2
      exact GR.ret P
    replace hF := ite_f c1 hF
    refine GR.f c1 ?_
    refine GR.bind (P.getRa (k := 10) h0 (by decide) (by decide) (by decide)) ?_
    replace hF := okb_some hF
    obtain ⟨h2, hF⟩ := hF
    refine GR.bind (P.dI (k := 10) (n := ((v1 * (8 : Int32)) + v3).toNatClampNeg) h0 (by decide) (by decide) (by decide) (by decide) h2 rfl) ?_
    refine GR.bind (P.getRa (k := 10) h0 (by decide) (by decide) (by decide)) ?_
    replace hF := okb_some hF
    obtain ⟨h3, hF⟩ := hF
    refine GR.bind (P.dI (k := 10) (n := ((v2 * (8 : Int32)) + v3).toNatClampNeg) h0 (by decide) (by decide) (by decide) (by decide) h3 rfl) ?_
    by_cases c4 : (ha w v0 10 ((v1 * (8 : Int32)) + v3).toNatClampNeg) = (ha w v0 10 ((v2 * (8 : Int32)) + v3).toNatClampNeg)
    · replace hF := ite_t c4 hF
      refine GR.t c4 ?_
      exact ih _ _ _ _ _ _ h0 P hF
    replace hF := ite_f c4 hF
    refine GR.f c4 ?_
    obtain ⟨f1, f2⟩ := finW hF
    subst f1
    subst f2
    exact GR.ret P
def FX4_isSame (w : HS) (a0 : Nat) (a1 : Int32) (a2 : Int32) : Option (Int32 × HS) :=
  okb (hc w a0 == 4) (okb (inb a1 1201) (okb (inb a2 1201) (if (ha w a0 11 a1.toNatClampNeg) = (ha w a0 11 a2.toNatClampNeg) then (FX4_isSame_19 FUEL w a0 a1 a2 (0 : Int32)) else
  (some ((0 : Int32), w)))))
set_option maxHeartbeats 4000000 in
set_option maxRecDepth 100000 in
theorem rX4_isSame {ar : Nat → Nat → Nat} {c0 : Nat → Nat} {sz : Nat} {g : PH} {w w' : HS} {a0 : Nat} {a1 : Int32} {a2 : Int32} {r : Int32} (P : Rel ar c0 sz g w) (hF : FX4_isSame w a0 a1 a2 = some (r, w')) : GR ar c0 sz r w' (fX4_isSame g a0 a1 a2) := by
  unfold FX4_isSame at hF
  unfold fX4_isSame
  replace hF := okb_some hF
  obtain ⟨h0, hF⟩ := hF
  replace h0 := P.cls h0
  refine GR.ok (P.rO h0 (by decide)) ?_
  refine GR.bind (P.getRa (k := 11) h0 (by decide) (by decide) (by decide)) ?_
  replace hF := okb_some hF
  obtain ⟨h1, hF⟩ := hF
  refine GR.bind (P.dI (k := 11) (n := a1.toNatClampNeg) h0 (by decide) (by decide) (by decide) (by decide) h1 rfl) ?_
  refine GR.bind (P.getRa (k := 11) h0 (by decide) (by decide) (by decide)) ?_
  replace hF := okb_some hF
  obtain ⟨h2, hF⟩ := hF
  refine GR.bind (P.dI (k := 11) (n := a2.toNatClampNeg) h0 (by decide) (by decide) (by decide) (by decide) h2 rfl) ?_
  by_cases c3 : (ha w a0 11 a1.toNatClampNeg) = (ha w a0 11 a2.toNatClampNeg)
  · replace hF := ite_t c3 hF
    refine GR.t c3 ?_
    exact rX4_isSame_19  _ _ _ _ _ _ _ h0 P hF
  replace hF := ite_f c3 hF
  refine GR.f c3 ?_
  obtain ⟨f1, f2⟩ := finW hF
  subst f1
  subst f2
  exact GR.ret P
def FX4_slotOf_56  : Nat → HS → Nat → Int32 → Int32 → Int32 → Option (Int32 × HS)
  | 0, _, _, _, _, _ => none
  | n + 1, w, v0, v1, v3, v4 =>
  if (4096 : Int32) ≤ v4 then (some (v3, w)) else
  (okb (inb v3 4096) (if (ha w v0 14 v3.toNatClampNeg) = 0 then (some (v3, w)) else
  (okb (inb v3 4096) ((FX4_isSame w v0 ((ha w v0 14 v3.toNatClampNeg) - (1 : Int32)) v1).bind fun q5 =>
  (if q5.1 = 0 then (FX4_slotOf_56 n q5.2 v0 v1 ((v3 + (1 : Int32)) &&& (4095 : Int32)) (v4 + (1 : Int32))) else
  (some (v3, q5.2)))))))
set_option maxHeartbeats 4000000 in
set_option maxRecDepth 100000 in
theorem rX4_slotOf_56 {ar : Nat → Nat → Nat} {c0 : Nat → Nat} {sz : Nat} {r : Int32} {w' : HS}   : ∀ (n : Nat) (g : PH) (w : HS) (v0 : Nat) (v1 : Int32) (v3 : Int32) (v4 : Int32), c0 v0 = 4 → Rel ar c0 sz g w → FX4_slotOf_56  n w v0 v1 v3 v4 = some (r, w') → GR ar c0 sz r w' (fX4_slotOf_56  n g v0 v1 v3 v4) := by
  intro n
  induction n with
  | zero =>
    intro g w v0 v1 v3 v4 h0 P hF
    rw [FX4_slotOf_56] at hF
    cases hF
  | succ n ih =>
    intro g w v0 v1 v3 v4 h0 P hF
    rw [FX4_slotOf_56] at hF
    rw [fX4_slotOf_56]
    by_cases c1 : (4096 : Int32) ≤ v4
    · replace hF := ite_t c1 hF
      refine GR.t c1 ?_
      obtain ⟨f1, f2⟩ := finW hF
      subst f1
      subst f2
      exact GR.ret P
    replace hF := ite_f c1 hF
    refine GR.f c1 ?_
    refine GR.bind (P.getRa (k := 14) h0 (by decide) (by decide) (by decide)) ?_
    replace hF := okb_some hF
    obtain ⟨h2, hF⟩ := hF
    refine GR.bind (P.dI (k := 14) (n := v3.toNatClampNeg) h0 (by decide) (by decide) (by decide) (by decide) h2 rfl) ?_
    by_cases c3 : (ha w v0 14 v3.toNatClampNeg) = 0
    · replace hF := ite_t c3 hF
      refine GR.t c3 ?_
      obtain ⟨f1, f2⟩ := finW hF
      subst f1
      subst f2
      exact GR.ret P
    replace hF := ite_f c3 hF
    refine GR.f c3 ?_
    refine GR.bind (P.getRa (k := 14) h0 (by decide) (by decide) (by decide)) ?_
    replace hF := okb_some hF
    obtain ⟨h4, hF⟩ := hF
    refine GR.bind (P.dI (k := 14) (n := v3.toNatClampNeg) h0 (by decide) (by decide) (by decide) (by decide) h4 rfl) ?_
    replace hF := ob_some hF
    obtain ⟨q5, h6, hF⟩ := hF
    obtain ⟨g7, e8, P⟩ := rX4_isSame (r := q5.1) (w' := q5.2) P h6
    refine GR.bind e8 ?_
    by_cases c9 : q5.1 = 0
    · replace hF := ite_t c9 hF
      refine GR.t c9 ?_
      exact ih _ _ _ _ _ _ h0 P hF
    replace hF := ite_f c9 hF
    refine GR.f c9 ?_
    obtain ⟨f1, f2⟩ := finW hF
    subst f1
    subst f2
    exact GR.ret P
def FX4_slotOf_9  : Nat → HS → Nat → Int32 → Int32 → Int32 → Option (Int32 × HS)
  | 0, _, _, _, _, _ => none
  | n + 1, w, v0, v1, v2, v3 =>
  if (hi w v0 8) ≤ v3 then (FX4_slotOf_56 FUEL w v0 v1 (v2 &&& (4095 : Int32)) (0 : Int32)) else
  (okb (inb ((v1 * (8 : Int32)) + v3) 9608) (FX4_slotOf_9 n w v0 v1 (((v2 ^^^ (ha w v0 10 ((v1 * (8 : Int32)) + v3).toNatClampNeg)) * (16777619 : Int32)) ^^^ (((v2 ^^^ (ha w v0 10 ((v1 * (8 : Int32)) + v3).toNatClampNeg)) * (16777619 : Int32)).toUInt32 >>> ((15 : Int32).toUInt32 &&& Int32.toUInt32 31)).toInt32) (v3 + (1 : Int32))))
set_option maxHeartbeats 4000000 in
set_option maxRecDepth 100000 in
theorem rX4_slotOf_9 {ar : Nat → Nat → Nat} {c0 : Nat → Nat} {sz : Nat} {r : Int32} {w' : HS}   : ∀ (n : Nat) (g : PH) (w : HS) (v0 : Nat) (v1 : Int32) (v2 : Int32) (v3 : Int32), c0 v0 = 4 → Rel ar c0 sz g w → FX4_slotOf_9  n w v0 v1 v2 v3 = some (r, w') → GR ar c0 sz r w' (fX4_slotOf_9  n g v0 v1 v2 v3) := by
  intro n
  induction n with
  | zero =>
    intro g w v0 v1 v2 v3 h0 P hF
    rw [FX4_slotOf_9] at hF
    cases hF
  | succ n ih =>
    intro g w v0 v1 v2 v3 h0 P hF
    rw [FX4_slotOf_9] at hF
    rw [fX4_slotOf_9]
    refine GR.bind (P.rI (k := 8) h0 (by decide) (by decide) (by decide)) ?_
    by_cases c1 : (hi w v0 8) ≤ v3
    · replace hF := ite_t c1 hF
      refine GR.t c1 ?_
      exact rX4_slotOf_56  _ _ _ _ _ _ _ h0 P hF
    replace hF := ite_f c1 hF
    refine GR.f c1 ?_
    refine GR.bind (P.getRa (k := 10) h0 (by decide) (by decide) (by decide)) ?_
    replace hF := okb_some hF
    obtain ⟨h2, hF⟩ := hF
    refine GR.bind (P.dI (k := 10) (n := ((v1 * (8 : Int32)) + v3).toNatClampNeg) h0 (by decide) (by decide) (by decide) (by decide) h2 rfl) ?_
    exact ih _ _ _ _ _ _ h0 P hF
def FX4_slotOf (w : HS) (a0 : Nat) (a1 : Int32) : Option (Int32 × HS) :=
  okb (hc w a0 == 4) (okb (inb a1 1201) (FX4_slotOf_9 FUEL w a0 a1 (ha w a0 11 a1.toNatClampNeg) (0 : Int32)))
set_option maxHeartbeats 4000000 in
set_option maxRecDepth 100000 in
theorem rX4_slotOf {ar : Nat → Nat → Nat} {c0 : Nat → Nat} {sz : Nat} {g : PH} {w w' : HS} {a0 : Nat} {a1 : Int32} {r : Int32} (P : Rel ar c0 sz g w) (hF : FX4_slotOf w a0 a1 = some (r, w')) : GR ar c0 sz r w' (fX4_slotOf g a0 a1) := by
  unfold FX4_slotOf at hF
  unfold fX4_slotOf
  replace hF := okb_some hF
  obtain ⟨h0, hF⟩ := hF
  replace h0 := P.cls h0
  refine GR.ok (P.rO h0 (by decide)) ?_
  refine GR.bind (P.getRa (k := 11) h0 (by decide) (by decide) (by decide)) ?_
  replace hF := okb_some hF
  obtain ⟨h1, hF⟩ := hF
  refine GR.bind (P.dI (k := 11) (n := a1.toNatClampNeg) h0 (by decide) (by decide) (by decide) (by decide) h1 rfl) ?_
  exact rX4_slotOf_9  _ _ _ _ _ _ _ h0 P hF
def FX4_moved_31 (k4 : HS → Int32 → Int32 → Int32 → Int32 → Option (Int32 × HS)) (w : HS) (v0 : Int32) (v1 : Int32) (v2 : Int32) (v3 : Int32) (v4 : Int32) (s0 : Int32) : Option (Int32 × HS) :=
  k4 w v0 v1 (v2 ||| (((v1 >>> ((s0 + ((3 : Int32) * v4)) &&& 31)) &&& (7 : Int32)) <<< (((3 : Int32) * v3) &&& 31))) (v3 + (1 : Int32))
set_option maxHeartbeats 4000000 in
set_option maxRecDepth 100000 in
theorem rX4_moved_31 {ar : Nat → Nat → Nat} {c0 : Nat → Nat} {sz : Nat} {r : Int32} {w' : HS} {k4 : HS → Int32 → Int32 → Int32 → Int32 → Option (Int32 × HS)} {j4 : PH → Int32 → Int32 → Int32 → Int32 → Option (Int32 × PH)} (hk4 : ∀ (g : PH) (w : HS) (v0 : Int32) (v1 : Int32) (v2 : Int32) (v3 : Int32), Rel ar c0 sz g w → k4 w v0 v1 v2 v3 = some (r, w') → GR ar c0 sz r w' (j4 g v0 v1 v2 v3)) {g : PH} {w : HS} {v0 : Int32} {v1 : Int32} {v2 : Int32} {v3 : Int32} {v4 : Int32} {s0 : Int32} (P : Rel ar c0 sz g w) (hF : FX4_moved_31 k4 w v0 v1 v2 v3 v4 s0 = some (r, w')) : GR ar c0 sz r w' (fX4_moved_31 j4 g v0 v1 v2 v3 v4 s0) := by
  unfold FX4_moved_31 at hF
  unfold fX4_moved_31
  exact hk4 _ _ _ _ _ _ P hF
def FX4_moved_4  : Nat → HS → Int32 → Int32 → Int32 → Int32 → Option (Int32 × HS)
  | 0, _, _, _, _, _ => none
  | n + 1, w, v0, v1, v2, v3 =>
  if (8 : Int32) ≤ v3 then (some (v2, w)) else
  (if (4 : Int32) ≤ v3 then (FX4_moved_31 (FX4_moved_4 n) w v0 v1 v2 v3 ((v0 >>> (((3 : Int32) * v3) &&& 31)) &&& (7 : Int32)) (15 : Int32)) else
  (FX4_moved_31 (FX4_moved_4 n) w v0 v1 v2 v3 ((v0 >>> (((3 : Int32) * v3) &&& 31)) &&& (7 : Int32)) (0 : Int32)))
set_option maxHeartbeats 4000000 in
set_option maxRecDepth 100000 in
theorem rX4_moved_4 {ar : Nat → Nat → Nat} {c0 : Nat → Nat} {sz : Nat} {r : Int32} {w' : HS}   : ∀ (n : Nat) (g : PH) (w : HS) (v0 : Int32) (v1 : Int32) (v2 : Int32) (v3 : Int32), Rel ar c0 sz g w → FX4_moved_4  n w v0 v1 v2 v3 = some (r, w') → GR ar c0 sz r w' (fX4_moved_4  n g v0 v1 v2 v3) := by
  intro n
  induction n with
  | zero =>
    intro g w v0 v1 v2 v3 P hF
    rw [FX4_moved_4] at hF
    cases hF
  | succ n ih =>
    intro g w v0 v1 v2 v3 P hF
    rw [FX4_moved_4] at hF
    rw [fX4_moved_4]
    by_cases c1 : (8 : Int32) ≤ v3
    · replace hF := ite_t c1 hF
      refine GR.t c1 ?_
      obtain ⟨f1, f2⟩ := finW hF
      subst f1
      subst f2
      exact GR.ret P
    replace hF := ite_f c1 hF
    refine GR.f c1 ?_
    by_cases c2 : (4 : Int32) ≤ v3
    · replace hF := ite_t c2 hF
      refine GR.t c2 ?_
      exact rX4_moved_31 ih P hF
    replace hF := ite_f c2 hF
    refine GR.f c2 ?_
    exact rX4_moved_31 ih P hF
def FX4_moved (w : HS) (a0 : Int32) (a1 : Int32) : Option (Int32 × HS) :=
  FX4_moved_4 FUEL w a0 a1 (0 : Int32) (0 : Int32)
set_option maxHeartbeats 4000000 in
set_option maxRecDepth 100000 in
theorem rX4_moved {ar : Nat → Nat → Nat} {c0 : Nat → Nat} {sz : Nat} {g : PH} {w w' : HS} {a0 : Int32} {a1 : Int32} {r : Int32} (P : Rel ar c0 sz g w) (hF : FX4_moved w a0 a1 = some (r, w')) : GR ar c0 sz r w' (fX4_moved g a0 a1) := by
  unfold FX4_moved at hF
  unfold fX4_moved
  exact rX4_moved_4  _ _ _ _ _ _ _ P hF
def FX4_soundBehind_40 (k5 : HS → Nat → Int32 → Int32 → Int32 → Option (Int32 × HS)) (w : HS) (v0 : Nat) (v2 : Int32) (v4 : Int32) (s0 : Int32) : Option (Int32 × HS) :=
  k5 w v0 v2 s0 (v4 + (1 : Int32))
set_option maxHeartbeats 4000000 in
set_option maxRecDepth 100000 in
theorem rX4_soundBehind_40 {ar : Nat → Nat → Nat} {c0 : Nat → Nat} {sz : Nat} {r : Int32} {w' : HS} {k5 : HS → Nat → Int32 → Int32 → Int32 → Option (Int32 × HS)} {j5 : PH → Nat → Int32 → Int32 → Int32 → Option (Int32 × PH)} (hk5 : ∀ (g : PH) (w : HS) (v0 : Nat) (v2 : Int32) (v3 : Int32) (v4 : Int32), c0 v0 = 4 → Rel ar c0 sz g w → k5 w v0 v2 v3 v4 = some (r, w') → GR ar c0 sz r w' (j5 g v0 v2 v3 v4)) {g : PH} {w : HS} {v0 : Nat} {v2 : Int32} {v4 : Int32} {s0 : Int32} (h0 : c0 v0 = 4) (P : Rel ar c0 sz g w) (hF : FX4_soundBehind_40 k5 w v0 v2 v4 s0 = some (r, w')) : GR ar c0 sz r w' (fX4_soundBehind_40 j5 g v0 v2 v4 s0) := by
  unfold FX4_soundBehind_40 at hF
  unfold fX4_soundBehind_40
  exact hk5 _ _ _ _ _ _ h0 P hF
def FX4_soundBehind_5  : Nat → HS → Nat → Int32 → Int32 → Int32 → Option (Int32 × HS)
  | 0, _, _, _, _, _ => none
  | n + 1, w, v0, v2, v3, v4 =>
  okb (inb v2 78) (if (ha w v0 2 v2.toNatClampNeg) ≤ v4 then (some (v3, w)) else
  (okb (inb ((v2 * (3 : Int32)) + v4) 234) (if (ha w v0 4 ((v2 * (3 : Int32)) + v4).toNatClampNeg) = 0 then (FX4_soundBehind_40 (FX4_soundBehind_5 n) w v0 v2 v4 v3) else
  (FX4_soundBehind_40 (FX4_soundBehind_5 n) w v0 v2 v4 (ha w v0 4 ((v2 * (3 : Int32)) + v4).toNatClampNeg)))))
set_option maxHeartbeats 4000000 in
set_option maxRecDepth 100000 in
theorem rX4_soundBehind_5 {ar : Nat → Nat → Nat} {c0 : Nat → Nat} {sz : Nat} {r : Int32} {w' : HS}   : ∀ (n : Nat) (g : PH) (w : HS) (v0 : Nat) (v2 : Int32) (v3 : Int32) (v4 : Int32), c0 v0 = 4 → Rel ar c0 sz g w → FX4_soundBehind_5  n w v0 v2 v3 v4 = some (r, w') → GR ar c0 sz r w' (fX4_soundBehind_5  n g v0 v2 v3 v4) := by
  intro n
  induction n with
  | zero =>
    intro g w v0 v2 v3 v4 h0 P hF
    rw [FX4_soundBehind_5] at hF
    cases hF
  | succ n ih =>
    intro g w v0 v2 v3 v4 h0 P hF
    rw [FX4_soundBehind_5] at hF
    rw [fX4_soundBehind_5]
    refine GR.bind (P.getRa (k := 2) h0 (by decide) (by decide) (by decide)) ?_
    replace hF := okb_some hF
    obtain ⟨h1, hF⟩ := hF
    refine GR.bind (P.dI (k := 2) (n := v2.toNatClampNeg) h0 (by decide) (by decide) (by decide) (by decide) h1 rfl) ?_
    by_cases c2 : (ha w v0 2 v2.toNatClampNeg) ≤ v4
    · replace hF := ite_t c2 hF
      refine GR.t c2 ?_
      obtain ⟨f1, f2⟩ := finW hF
      subst f1
      subst f2
      exact GR.ret P
    replace hF := ite_f c2 hF
    refine GR.f c2 ?_
    refine GR.bind (P.getRa (k := 4) h0 (by decide) (by decide) (by decide)) ?_
    replace hF := okb_some hF
    obtain ⟨h3, hF⟩ := hF
    refine GR.bind (P.dI (k := 4) (n := ((v2 * (3 : Int32)) + v4).toNatClampNeg) h0 (by decide) (by decide) (by decide) (by decide) h3 rfl) ?_
    by_cases c4 : (ha w v0 4 ((v2 * (3 : Int32)) + v4).toNatClampNeg) = 0
    · replace hF := ite_t c4 hF
      refine GR.t c4 ?_
      exact rX4_soundBehind_40 ih h0 P hF
    replace hF := ite_f c4 hF
    refine GR.f c4 ?_
    exact rX4_soundBehind_40 ih h0 P hF
def FX4_soundBehind (w : HS) (a0 : Nat) (a1 : Int32) (a2 : Int32) : Option (Int32 × HS) :=
  okb (hc w a0 == 4) (FX4_soundBehind_5 FUEL w a0 a2 a1 (0 : Int32))
set_option maxHeartbeats 4000000 in
set_option maxRecDepth 100000 in
theorem rX4_soundBehind {ar : Nat → Nat → Nat} {c0 : Nat → Nat} {sz : Nat} {g : PH} {w w' : HS} {a0 : Nat} {a1 : Int32} {a2 : Int32} {r : Int32} (P : Rel ar c0 sz g w) (hF : FX4_soundBehind w a0 a1 a2 = some (r, w')) : GR ar c0 sz r w' (fX4_soundBehind g a0 a1 a2) := by
  unfold FX4_soundBehind at hF
  unfold fX4_soundBehind
  replace hF := okb_some hF
  obtain ⟨h0, hF⟩ := hF
  replace h0 := P.cls h0
  refine GR.ok (P.rO h0 (by decide)) ?_
  exact rX4_soundBehind_5  _ _ _ _ _ _ _ h0 P hF
def FX4_arrive_102 (k5 : HS → Nat → Int32 → Int32 → Int32 → Int32 → Option (Int32 × HS)) (w : HS) (v0 : Nat) (v1 : Int32) (v2 : Int32) (v4 : Int32) (s0 : Int32) : Option (Int32 × HS) :=
  k5 w v0 v1 v2 s0 (v4 + (1 : Int32))
set_option maxHeartbeats 4000000 in
set_option maxRecDepth 100000 in
theorem rX4_arrive_102 {ar : Nat → Nat → Nat} {c0 : Nat → Nat} {sz : Nat} {r : Int32} {w' : HS} {k5 : HS → Nat → Int32 → Int32 → Int32 → Int32 → Option (Int32 × HS)} {j5 : PH → Nat → Int32 → Int32 → Int32 → Int32 → Option (Int32 × PH)} (hk5 : ∀ (g : PH) (w : HS) (v0 : Nat) (v1 : Int32) (v2 : Int32) (v3 : Int32) (v4 : Int32), c0 v0 = 4 → Rel ar c0 sz g w → k5 w v0 v1 v2 v3 v4 = some (r, w') → GR ar c0 sz r w' (j5 g v0 v1 v2 v3 v4)) {g : PH} {w : HS} {v0 : Nat} {v1 : Int32} {v2 : Int32} {v4 : Int32} {s0 : Int32} (h0 : c0 v0 = 4) (P : Rel ar c0 sz g w) (hF : FX4_arrive_102 k5 w v0 v1 v2 v4 s0 = some (r, w')) : GR ar c0 sz r w' (fX4_arrive_102 j5 g v0 v1 v2 v4 s0) := by
  unfold FX4_arrive_102 at hF
  unfold fX4_arrive_102
  exact hk5 _ _ _ _ _ _ _ h0 P hF
def FX4_arrive_101 (k5 : HS → Nat → Int32 → Int32 → Int32 → Int32 → Option (Int32 × HS)) (w : HS) (v0 : Nat) (v1 : Int32) (v2 : Int32) (v4 : Int32) : Option (Int32 × HS) :=
  FX4_arrive_102 (k5) w v0 v1 v2 v4 (0 : Int32)
set_option maxHeartbeats 4000000 in
set_option maxRecDepth 100000 in
theorem rX4_arrive_101 {ar : Nat → Nat → Nat} {c0 : Nat → Nat} {sz : Nat} {r : Int32} {w' : HS} {k5 : HS → Nat → Int32 → Int32 → Int32 → Int32 → Option (Int32 × HS)} {j5 : PH → Nat → Int32 → Int32 → Int32 → Int32 → Option (Int32 × PH)} (hk5 : ∀ (g : PH) (w : HS) (v0 : Nat) (v1 : Int32) (v2 : Int32) (v3 : Int32) (v4 : Int32), c0 v0 = 4 → Rel ar c0 sz g w → k5 w v0 v1 v2 v3 v4 = some (r, w') → GR ar c0 sz r w' (j5 g v0 v1 v2 v3 v4)) {g : PH} {w : HS} {v0 : Nat} {v1 : Int32} {v2 : Int32} {v4 : Int32} (h0 : c0 v0 = 4) (P : Rel ar c0 sz g w) (hF : FX4_arrive_101 k5 w v0 v1 v2 v4 = some (r, w')) : GR ar c0 sz r w' (fX4_arrive_101 j5 g v0 v1 v2 v4) := by
  unfold FX4_arrive_101 at hF
  unfold fX4_arrive_101
  exact rX4_arrive_102 hk5 h0 P hF
def FX4_arrive_5  : Nat → HS → Nat → Int32 → Int32 → Int32 → Int32 → Option (Int32 × HS)
  | 0, _, _, _, _, _, _ => none
  | n + 1, w, v0, v1, v2, v3, v4 =>
  if (hi w v0 8) ≤ v4 then (okb (inb v1 1201) ((FX4_soundBehind w v0 (ha w v0 11 v1.toNatClampNeg) v2).bind fun q3 =>
  (okb (inb (hi w v0 9) 1201) (bnd (setA q3.2 v0 11 (hi w v0 9).toNatClampNeg q3.1) fun w10 =>
  (okb (inb (hi w10 v0 9) 1201) (bnd (setA w10 v0 12 (hi w10 v0 9).toNatClampNeg v1) fun w15 =>
  (okb (inb (hi w15 v0 9) 1201) (bnd (setA w15 v0 13 (hi w15 v0 9).toNatClampNeg v2) fun w20 =>
  (if v3 = 0 then ((FX4_slotOf w20 v0 (hi w20 v0 9)).bind fun q23 =>
  (okb (inb q23.1 4096) (if (ha q23.2 v0 14 q23.1.toNatClampNeg) = 0 then (if (hi q23.2 v0 9) < (1200 : Int32) then (bnd (setI q23.2 v0 9 ((hi q23.2 v0 9) + (1 : Int32))) fun w30 =>
  (okb (inb q23.1 4096) (bnd (setA w30 v0 14 q23.1.toNatClampNeg (hi w30 v0 9)) fun w37 =>
  (some ((0 : Int32), w37))))) else
  (some ((2 : Int32), q23.2))) else
  (some ((0 : Int32), q23.2))))) else
  (some ((1 : Int32), w20))))))))))) else
  (okb (inb v4 8) (okb (inb v1 1201) (okb (inb (((((ha w v0 7 v4.toNatClampNeg) * (3 : Int32)) + (ha w v0 11 v1.toNatClampNeg)) * (78 : Int32)) + v2) 1872) (if (ha w v0 5 (((((ha w v0 7 v4.toNatClampNeg) * (3 : Int32)) + (ha w v0 11 v1.toNatClampNeg)) * (78 : Int32)) + v2).toNatClampNeg) = (-1 : Int32) then (some ((0 : Int32), w)) else
  (okb (inb ((v1 * (8 : Int32)) + v4) 9608) ((FX4_moved w (ha w v0 10 ((v1 * (8 : Int32)) + v4).toNatClampNeg) (ha w v0 5 (((((ha w v0 7 v4.toNatClampNeg) * (3 : Int32)) + (ha w v0 11 v1.toNatClampNeg)) * (78 : Int32)) + v2).toNatClampNeg)).bind fun q44 =>
  (okb (inb (((hi q44.2 v0 9) * (8 : Int32)) + v4) 9608) (bnd (setA q44.2 v0 10 (((hi q44.2 v0 9) * (8 : Int32)) + v4).toNatClampNeg q44.1) fun w51 =>
  (if v3 = 0 then (FX4_arrive_101 (FX4_arrive_5 n) w51 v0 v1 v2 v4) else
  (if q44.1 = (9586980 : Int32) then (FX4_arrive_102 (FX4_arrive_5 n) w51 v0 v1 v2 v4 (1 : Int32)) else
  (FX4_arrive_101 (FX4_arrive_5 n) w51 v0 v1 v2 v4)))))))))))
set_option maxHeartbeats 4000000 in
set_option maxRecDepth 100000 in
theorem rX4_arrive_5 {ar : Nat → Nat → Nat} {c0 : Nat → Nat} {sz : Nat} {r : Int32} {w' : HS}   : ∀ (n : Nat) (g : PH) (w : HS) (v0 : Nat) (v1 : Int32) (v2 : Int32) (v3 : Int32) (v4 : Int32), c0 v0 = 4 → Rel ar c0 sz g w → FX4_arrive_5  n w v0 v1 v2 v3 v4 = some (r, w') → GR ar c0 sz r w' (fX4_arrive_5  n g v0 v1 v2 v3 v4) := by
  intro n
  induction n with
  | zero =>
    intro g w v0 v1 v2 v3 v4 h0 P hF
    rw [FX4_arrive_5] at hF
    cases hF
  | succ n ih =>
    intro g w v0 v1 v2 v3 v4 h0 P hF
    rw [FX4_arrive_5] at hF
    rw [fX4_arrive_5]
    refine GR.bind (P.rI (k := 8) h0 (by decide) (by decide) (by decide)) ?_
    by_cases c1 : (hi w v0 8) ≤ v4
    · replace hF := ite_t c1 hF
      refine GR.t c1 ?_
      refine GR.bind (P.getRa (k := 11) h0 (by decide) (by decide) (by decide)) ?_
      refine GR.bind (P.rI (k := 9) h0 (by decide) (by decide) (by decide)) ?_
      refine GR.bind (P.getRa (k := 11) h0 (by decide) (by decide) (by decide)) ?_
      replace hF := okb_some hF
      obtain ⟨h2, hF⟩ := hF
      refine GR.bind (P.dI (k := 11) (n := v1.toNatClampNeg) h0 (by decide) (by decide) (by decide) (by decide) h2 rfl) ?_
      replace hF := ob_some hF
      obtain ⟨q3, h4, hF⟩ := hF
      obtain ⟨g5, e6, P⟩ := rX4_soundBehind (r := q3.1) (w' := q3.2) P h4
      refine GR.bind e6 ?_
      replace hF := okb_some hF
      obtain ⟨h7, hF⟩ := hF
      replace hF := bnd_e hF
      obtain ⟨w10, e11, hF⟩ := hF
      obtain ⟨g8, e9, P⟩ := P.sI (k := 11) (kd := 0) (j := (hi w v0 9)) h0 (by decide) (by decide) (by decide) (by decide) h7 rfl e11
      refine GR.bind e9 ?_
      refine GR.bind (P.getRa (k := 12) h0 (by decide) (by decide) (by decide)) ?_
      refine GR.bind (P.rI (k := 9) h0 (by decide) (by decide) (by decide)) ?_
      replace hF := okb_some hF
      obtain ⟨h12, hF⟩ := hF
      replace hF := bnd_e hF
      obtain ⟨w15, e16, hF⟩ := hF
      obtain ⟨g13, e14, P⟩ := P.sI (k := 12) (kd := 0) (j := (hi w10 v0 9)) h0 (by decide) (by decide) (by decide) (by decide) h12 rfl e16
      refine GR.bind e14 ?_
      refine GR.bind (P.getRa (k := 13) h0 (by decide) (by decide) (by decide)) ?_
      refine GR.bind (P.rI (k := 9) h0 (by decide) (by decide) (by decide)) ?_
      replace hF := okb_some hF
      obtain ⟨h17, hF⟩ := hF
      replace hF := bnd_e hF
      obtain ⟨w20, e21, hF⟩ := hF
      obtain ⟨g18, e19, P⟩ := P.sI (k := 13) (kd := 0) (j := (hi w15 v0 9)) h0 (by decide) (by decide) (by decide) (by decide) h17 rfl e21
      refine GR.bind e19 ?_
      by_cases c22 : v3 = 0
      · replace hF := ite_t c22 hF
        refine GR.t c22 ?_
        refine GR.bind (P.rI (k := 9) h0 (by decide) (by decide) (by decide)) ?_
        replace hF := ob_some hF
        obtain ⟨q23, h24, hF⟩ := hF
        obtain ⟨g25, e26, P⟩ := rX4_slotOf (r := q23.1) (w' := q23.2) P h24
        refine GR.bind e26 ?_
        refine GR.bind (P.getRa (k := 14) h0 (by decide) (by decide) (by decide)) ?_
        replace hF := okb_some hF
        obtain ⟨h27, hF⟩ := hF
        refine GR.bind (P.dI (k := 14) (n := q23.1.toNatClampNeg) h0 (by decide) (by decide) (by decide) (by decide) h27 rfl) ?_
        by_cases c28 : (ha q23.2 v0 14 q23.1.toNatClampNeg) = 0
        · replace hF := ite_t c28 hF
          refine GR.t c28 ?_
          refine GR.bind (P.rI (k := 9) h0 (by decide) (by decide) (by decide)) ?_
          by_cases c29 : (hi q23.2 v0 9) < (1200 : Int32)
          · replace hF := ite_t c29 hF
            refine GR.t c29 ?_
            refine GR.bind (P.rI (k := 9) h0 (by decide) (by decide) (by decide)) ?_
            replace hF := bnd_e hF
            obtain ⟨w30, e31, hF⟩ := hF
            obtain ⟨g32, e33, P⟩ := P.putI (k := 9) h0 (by decide) (by decide) (by decide) e31
            refine GR.bind e33 ?_
            refine GR.bind (P.getRa (k := 14) h0 (by decide) (by decide) (by decide)) ?_
            refine GR.bind (P.rI (k := 9) h0 (by decide) (by decide) (by decide)) ?_
            replace hF := okb_some hF
            obtain ⟨h34, hF⟩ := hF
            replace hF := bnd_e hF
            obtain ⟨w37, e38, hF⟩ := hF
            obtain ⟨g35, e36, P⟩ := P.sI (k := 14) (kd := 0) (j := q23.1) h0 (by decide) (by decide) (by decide) (by decide) h34 rfl e38
            refine GR.bind e36 ?_
            obtain ⟨f1, f2⟩ := finW hF
            subst f1
            subst f2
            exact GR.ret P
          replace hF := ite_f c29 hF
          refine GR.f c29 ?_
          obtain ⟨f1, f2⟩ := finW hF
          subst f1
          subst f2
          exact GR.ret P
        replace hF := ite_f c28 hF
        refine GR.f c28 ?_
        obtain ⟨f1, f2⟩ := finW hF
        subst f1
        subst f2
        exact GR.ret P
      replace hF := ite_f c22 hF
      refine GR.f c22 ?_
      obtain ⟨f1, f2⟩ := finW hF
      subst f1
      subst f2
      exact GR.ret P
    replace hF := ite_f c1 hF
    refine GR.f c1 ?_
    refine GR.bind (P.getRa (k := 5) h0 (by decide) (by decide) (by decide)) ?_
    refine GR.bind (P.getRa (k := 7) h0 (by decide) (by decide) (by decide)) ?_
    replace hF := okb_some hF
    obtain ⟨h39, hF⟩ := hF
    refine GR.bind (P.dI (k := 7) (n := v4.toNatClampNeg) h0 (by decide) (by decide) (by decide) (by decide) h39 rfl) ?_
    refine GR.bind (P.getRa (k := 11) h0 (by decide) (by decide) (by decide)) ?_
    replace hF := okb_some hF
    obtain ⟨h40, hF⟩ := hF
    refine GR.bind (P.dI (k := 11) (n := v1.toNatClampNeg) h0 (by decide) (by decide) (by decide) (by decide) h40 rfl) ?_
    replace hF := okb_some hF
    obtain ⟨h41, hF⟩ := hF
    refine GR.bind (P.dI (k := 5) (n := (((((ha w v0 7 v4.toNatClampNeg) * (3 : Int32)) + (ha w v0 11 v1.toNatClampNeg)) * (78 : Int32)) + v2).toNatClampNeg) h0 (by decide) (by decide) (by decide) (by decide) h41 rfl) ?_
    by_cases c42 : (ha w v0 5 (((((ha w v0 7 v4.toNatClampNeg) * (3 : Int32)) + (ha w v0 11 v1.toNatClampNeg)) * (78 : Int32)) + v2).toNatClampNeg) = (-1 : Int32)
    · replace hF := ite_t c42 hF
      refine GR.t c42 ?_
      obtain ⟨f1, f2⟩ := finW hF
      subst f1
      subst f2
      exact GR.ret P
    replace hF := ite_f c42 hF
    refine GR.f c42 ?_
    refine GR.bind (P.getRa (k := 10) h0 (by decide) (by decide) (by decide)) ?_
    replace hF := okb_some hF
    obtain ⟨h43, hF⟩ := hF
    refine GR.bind (P.dI (k := 10) (n := ((v1 * (8 : Int32)) + v4).toNatClampNeg) h0 (by decide) (by decide) (by decide) (by decide) h43 rfl) ?_
    replace hF := ob_some hF
    obtain ⟨q44, h45, hF⟩ := hF
    obtain ⟨g46, e47, P⟩ := rX4_moved (r := q44.1) (w' := q44.2) P h45
    refine GR.bind e47 ?_
    refine GR.bind (P.getRa (k := 10) h0 (by decide) (by decide) (by decide)) ?_
    refine GR.bind (P.rI (k := 9) h0 (by decide) (by decide) (by decide)) ?_
    replace hF := okb_some hF
    obtain ⟨h48, hF⟩ := hF
    replace hF := bnd_e hF
    obtain ⟨w51, e52, hF⟩ := hF
    obtain ⟨g49, e50, P⟩ := P.sI (k := 10) (kd := 0) (j := (((hi q44.2 v0 9) * (8 : Int32)) + v4)) h0 (by decide) (by decide) (by decide) (by decide) h48 rfl e52
    refine GR.bind e50 ?_
    by_cases c53 : v3 = 0
    · replace hF := ite_t c53 hF
      refine GR.t c53 ?_
      exact rX4_arrive_101 ih h0 P hF
    replace hF := ite_f c53 hF
    refine GR.f c53 ?_
    by_cases c54 : q44.1 = (9586980 : Int32)
    · replace hF := ite_t c54 hF
      refine GR.t c54 ?_
      exact rX4_arrive_102 ih h0 P hF
    replace hF := ite_f c54 hF
    refine GR.f c54 ?_
    exact rX4_arrive_101 ih h0 P hF
def FX4_arrive (w : HS) (a0 : Nat) (a1 : Int32) (a2 : Int32) : Option (Int32 × HS) :=
  okb (hc w a0 == 4) (FX4_arrive_5 FUEL w a0 a1 a2 (1 : Int32) (0 : Int32))
set_option maxHeartbeats 4000000 in
set_option maxRecDepth 100000 in
theorem rX4_arrive {ar : Nat → Nat → Nat} {c0 : Nat → Nat} {sz : Nat} {g : PH} {w w' : HS} {a0 : Nat} {a1 : Int32} {a2 : Int32} {r : Int32} (P : Rel ar c0 sz g w) (hF : FX4_arrive w a0 a1 a2 = some (r, w')) : GR ar c0 sz r w' (fX4_arrive g a0 a1 a2) := by
  unfold FX4_arrive at hF
  unfold fX4_arrive
  replace hF := okb_some hF
  obtain ⟨h0, hF⟩ := hF
  replace h0 := P.cls h0
  refine GR.ok (P.rO h0 (by decide)) ?_
  exact rX4_arrive_5  _ _ _ _ _ _ _ _ h0 P hF
def FX4_expand_26 (k7 : HS → Nat → Int32 → Int32 → Int32 → Option (Int32 × HS)) : Nat → HS → Nat → Int32 → Int32 → Int32 → Int32 → Option (Int32 × HS)
  | 0, _, _, _, _, _, _ => none
  | n + 1, w, v0, v1, v2, v3, v4 =>
  okb (inb (v2 + (1 : Int32)) (staB 0).length) (if ((staB 0).getD (v2 + (1 : Int32)).toNatClampNeg 0) ≤ v4 then (k7 w v0 v1 v2 (v3 + (1 : Int32))) else
  ((FX4_arrive w v0 v3 v4).bind fun q3 =>
  (if q3.1 = 0 then (FX4_expand_26 k7 n q3.2 v0 v1 v2 v3 (v4 + (1 : Int32))) else
  (some (q3.1, q3.2)))))
set_option maxHeartbeats 4000000 in
set_option maxRecDepth 100000 in
theorem rX4_expand_26 {ar : Nat → Nat → Nat} {c0 : Nat → Nat} {sz : Nat} {r : Int32} {w' : HS} {k7 : HS → Nat → Int32 → Int32 → Int32 → Option (Int32 × HS)} {j7 : PH → Nat → Int32 → Int32 → Int32 → Option (Int32 × PH)} (hk7 : ∀ (g : PH) (w : HS) (v0 : Nat) (v1 : Int32) (v2 : Int32) (v3 : Int32), c0 v0 = 4 → Rel ar c0 sz g w → k7 w v0 v1 v2 v3 = some (r, w') → GR ar c0 sz r w' (j7 g v0 v1 v2 v3)) : ∀ (n : Nat) (g : PH) (w : HS) (v0 : Nat) (v1 : Int32) (v2 : Int32) (v3 : Int32) (v4 : Int32), c0 v0 = 4 → Rel ar c0 sz g w → FX4_expand_26 k7 n w v0 v1 v2 v3 v4 = some (r, w') → GR ar c0 sz r w' (fX4_expand_26 j7 n g v0 v1 v2 v3 v4) := by
  intro n
  induction n with
  | zero =>
    intro g w v0 v1 v2 v3 v4 h0 P hF
    rw [FX4_expand_26] at hF
    cases hF
  | succ n ih =>
    intro g w v0 v1 v2 v3 v4 h0 P hF
    rw [FX4_expand_26] at hF
    rw [fX4_expand_26]
    replace hF := okb_some hF
    obtain ⟨h1, hF⟩ := hF
    refine GR.ok h1 ?_
    by_cases c2 : ((staB 0).getD (v2 + (1 : Int32)).toNatClampNeg 0) ≤ v4
    · replace hF := ite_t c2 hF
      refine GR.t c2 ?_
      exact hk7 _ _ _ _ _ _ h0 P hF
    replace hF := ite_f c2 hF
    refine GR.f c2 ?_
    replace hF := ob_some hF
    obtain ⟨q3, h4, hF⟩ := hF
    obtain ⟨g5, e6, P⟩ := rX4_arrive (r := q3.1) (w' := q3.2) P h4
    refine GR.bind e6 ?_
    by_cases c7 : q3.1 = 0
    · replace hF := ite_t c7 hF
      refine GR.t c7 ?_
      exact ih _ _ _ _ _ _ _ h0 P hF
    replace hF := ite_f c7 hF
    refine GR.f c7 ?_
    obtain ⟨f1, f2⟩ := finW hF
    subst f1
    subst f2
    exact GR.ret P
def FX4_expand_7  : Nat → HS → Nat → Int32 → Int32 → Int32 → Option (Int32 × HS)
  | 0, _, _, _, _, _ => none
  | n + 1, w, v0, v1, v2, v3 =>
  okb (inb (v1 + (1 : Int32)) 10) (if (ha w v0 15 (v1 + (1 : Int32)).toNatClampNeg) ≤ v3 then (some ((0 : Int32), w)) else
  (okb (inb v2 (staB 0).length) (FX4_expand_26 (FX4_expand_7 n) FUEL w v0 v1 v2 v3 ((staB 0).getD v2.toNatClampNeg 0))))
set_option maxHeartbeats 4000000 in
set_option maxRecDepth 100000 in
theorem rX4_expand_7 {ar : Nat → Nat → Nat} {c0 : Nat → Nat} {sz : Nat} {r : Int32} {w' : HS}   : ∀ (n : Nat) (g : PH) (w : HS) (v0 : Nat) (v1 : Int32) (v2 : Int32) (v3 : Int32), c0 v0 = 4 → Rel ar c0 sz g w → FX4_expand_7  n w v0 v1 v2 v3 = some (r, w') → GR ar c0 sz r w' (fX4_expand_7  n g v0 v1 v2 v3) := by
  intro n
  induction n with
  | zero =>
    intro g w v0 v1 v2 v3 h0 P hF
    rw [FX4_expand_7] at hF
    cases hF
  | succ n ih =>
    intro g w v0 v1 v2 v3 h0 P hF
    rw [FX4_expand_7] at hF
    rw [fX4_expand_7]
    refine GR.bind (P.getRa (k := 15) h0 (by decide) (by decide) (by decide)) ?_
    replace hF := okb_some hF
    obtain ⟨h1, hF⟩ := hF
    refine GR.bind (P.dI (k := 15) (n := (v1 + (1 : Int32)).toNatClampNeg) h0 (by decide) (by decide) (by decide) (by decide) h1 rfl) ?_
    by_cases c2 : (ha w v0 15 (v1 + (1 : Int32)).toNatClampNeg) ≤ v3
    · replace hF := ite_t c2 hF
      refine GR.t c2 ?_
      obtain ⟨f1, f2⟩ := finW hF
      subst f1
      subst f2
      exact GR.ret P
    replace hF := ite_f c2 hF
    refine GR.f c2 ?_
    replace hF := okb_some hF
    obtain ⟨h3, hF⟩ := hF
    refine GR.ok h3 ?_
    exact rX4_expand_26 ih _ _ _ _ _ _ _ _ h0 P hF
def FX4_expand (w : HS) (a0 : Nat) (a1 : Int32) (a2 : Int32) : Option (Int32 × HS) :=
  okb (hc w a0 == 4) (okb (inb a1 10) (FX4_expand_7 FUEL w a0 a1 a2 (ha w a0 15 a1.toNatClampNeg)))
set_option maxHeartbeats 4000000 in
set_option maxRecDepth 100000 in
theorem rX4_expand {ar : Nat → Nat → Nat} {c0 : Nat → Nat} {sz : Nat} {g : PH} {w w' : HS} {a0 : Nat} {a1 : Int32} {a2 : Int32} {r : Int32} (P : Rel ar c0 sz g w) (hF : FX4_expand w a0 a1 a2 = some (r, w')) : GR ar c0 sz r w' (fX4_expand g a0 a1 a2) := by
  unfold FX4_expand at hF
  unfold fX4_expand
  replace hF := okb_some hF
  obtain ⟨h0, hF⟩ := hF
  replace h0 := P.cls h0
  refine GR.ok (P.rO h0 (by decide)) ?_
  refine GR.bind (P.getRa (k := 15) h0 (by decide) (by decide) (by decide)) ?_
  replace hF := okb_some hF
  obtain ⟨h1, hF⟩ := hF
  refine GR.bind (P.dI (k := 15) (n := a1.toNatClampNeg) h0 (by decide) (by decide) (by decide) (by decide) h1 rfl) ?_
  exact rX4_expand_7  _ _ _ _ _ _ _ h0 P hF
def FX4_explore_68 (k9 : HS → Nat → Int32 → Option (Int32 × HS)) (w : HS) (v0 : Nat) (v1 : Int32) : Option (Int32 × HS) :=
  k9 w v0 (v1 + (1 : Int32))
set_option maxHeartbeats 4000000 in
set_option maxRecDepth 100000 in
theorem rX4_explore_68 {ar : Nat → Nat → Nat} {c0 : Nat → Nat} {sz : Nat} {r : Int32} {w' : HS} {k9 : HS → Nat → Int32 → Option (Int32 × HS)} {j9 : PH → Nat → Int32 → Option (Int32 × PH)} (hk9 : ∀ (g : PH) (w : HS) (v0 : Nat) (v1 : Int32), c0 v0 = 4 → Rel ar c0 sz g w → k9 w v0 v1 = some (r, w') → GR ar c0 sz r w' (j9 g v0 v1)) {g : PH} {w : HS} {v0 : Nat} {v1 : Int32} (h0 : c0 v0 = 4) (P : Rel ar c0 sz g w) (hF : FX4_explore_68 k9 w v0 v1 = some (r, w')) : GR ar c0 sz r w' (fX4_explore_68 j9 g v0 v1) := by
  unfold FX4_explore_68 at hF
  unfold fX4_explore_68
  exact hk9 _ _ _ _ h0 P hF
def FX4_explore_27 (k9 : HS → Nat → Int32 → Option (Int32 × HS)) : Nat → HS → Nat → Int32 → Int32 → Option (Int32 × HS)
  | 0, _, _, _, _ => none
  | n + 1, w, v0, v1, v2 =>
  if (3 : Int32) < v2 then (FX4_explore_68 (k9) w v0 v1) else
  (if v1 < v2 then (FX4_explore_68 (k9) w v0 v1) else
  ((FX4_expand w v0 (v1 - v2) v2).bind fun q3 =>
  (if q3.1 = 0 then (FX4_explore_27 k9 n q3.2 v0 v1 (v2 + (1 : Int32))) else
  (if q3.1 = (1 : Int32) then (some (v1, q3.2)) else
  (some ((-3 : Int32), q3.2))))))
set_option maxHeartbeats 4000000 in
set_option maxRecDepth 100000 in
theorem rX4_explore_27 {ar : Nat → Nat → Nat} {c0 : Nat → Nat} {sz : Nat} {r : Int32} {w' : HS} {k9 : HS → Nat → Int32 → Option (Int32 × HS)} {j9 : PH → Nat → Int32 → Option (Int32 × PH)} (hk9 : ∀ (g : PH) (w : HS) (v0 : Nat) (v1 : Int32), c0 v0 = 4 → Rel ar c0 sz g w → k9 w v0 v1 = some (r, w') → GR ar c0 sz r w' (j9 g v0 v1)) : ∀ (n : Nat) (g : PH) (w : HS) (v0 : Nat) (v1 : Int32) (v2 : Int32), c0 v0 = 4 → Rel ar c0 sz g w → FX4_explore_27 k9 n w v0 v1 v2 = some (r, w') → GR ar c0 sz r w' (fX4_explore_27 j9 n g v0 v1 v2) := by
  intro n
  induction n with
  | zero =>
    intro g w v0 v1 v2 h0 P hF
    rw [FX4_explore_27] at hF
    cases hF
  | succ n ih =>
    intro g w v0 v1 v2 h0 P hF
    rw [FX4_explore_27] at hF
    rw [fX4_explore_27]
    by_cases c1 : (3 : Int32) < v2
    · replace hF := ite_t c1 hF
      refine GR.t c1 ?_
      exact rX4_explore_68 hk9 h0 P hF
    replace hF := ite_f c1 hF
    refine GR.f c1 ?_
    by_cases c2 : v1 < v2
    · replace hF := ite_t c2 hF
      refine GR.t c2 ?_
      exact rX4_explore_68 hk9 h0 P hF
    replace hF := ite_f c2 hF
    refine GR.f c2 ?_
    replace hF := ob_some hF
    obtain ⟨q3, h4, hF⟩ := hF
    obtain ⟨g5, e6, P⟩ := rX4_expand (r := q3.1) (w' := q3.2) P h4
    refine GR.bind e6 ?_
    by_cases c7 : q3.1 = 0
    · replace hF := ite_t c7 hF
      refine GR.t c7 ?_
      exact ih _ _ _ _ _ h0 P hF
    replace hF := ite_f c7 hF
    refine GR.f c7 ?_
    by_cases c8 : q3.1 = (1 : Int32)
    · replace hF := ite_t c8 hF
      refine GR.t c8 ?_
      obtain ⟨f1, f2⟩ := finW hF
      subst f1
      subst f2
      exact GR.ret P
    replace hF := ite_f c8 hF
    refine GR.f c8 ?_
    obtain ⟨f1, f2⟩ := finW hF
    subst f1
    subst f2
    exact GR.ret P
def FX4_explore_9  : Nat → HS → Nat → Int32 → Option (Int32 × HS)
  | 0, _, _, _ => none
  | n + 1, w, v0, v1 =>
  if (9 : Int32) < v1 then (some ((-2 : Int32), w)) else
  (okb (inb v1 10) (bnd (setA w v0 15 v1.toNatClampNeg (hi w v0 9)) fun w5 =>
  (FX4_explore_27 (FX4_explore_9 n) FUEL w5 v0 v1 (1 : Int32))))
set_option maxHeartbeats 4000000 in
set_option maxRecDepth 100000 in
theorem rX4_explore_9 {ar : Nat → Nat → Nat} {c0 : Nat → Nat} {sz : Nat} {r : Int32} {w' : HS}   : ∀ (n : Nat) (g : PH) (w : HS) (v0 : Nat) (v1 : Int32), c0 v0 = 4 → Rel ar c0 sz g w → FX4_explore_9  n w v0 v1 = some (r, w') → GR ar c0 sz r w' (fX4_explore_9  n g v0 v1) := by
  intro n
  induction n with
  | zero =>
    intro g w v0 v1 h0 P hF
    rw [FX4_explore_9] at hF
    cases hF
  | succ n ih =>
    intro g w v0 v1 h0 P hF
    rw [FX4_explore_9] at hF
    rw [fX4_explore_9]
    by_cases c1 : (9 : Int32) < v1
    · replace hF := ite_t c1 hF
      refine GR.t c1 ?_
      obtain ⟨f1, f2⟩ := finW hF
      subst f1
      subst f2
      exact GR.ret P
    replace hF := ite_f c1 hF
    refine GR.f c1 ?_
    refine GR.bind (P.getRa (k := 15) h0 (by decide) (by decide) (by decide)) ?_
    refine GR.bind (P.rI (k := 9) h0 (by decide) (by decide) (by decide)) ?_
    replace hF := okb_some hF
    obtain ⟨h2, hF⟩ := hF
    replace hF := bnd_e hF
    obtain ⟨w5, e6, hF⟩ := hF
    obtain ⟨g3, e4, P⟩ := P.sI (k := 15) (kd := 0) (j := v1) h0 (by decide) (by decide) (by decide) (by decide) h2 rfl e6
    refine GR.bind e4 ?_
    exact rX4_explore_27 ih _ _ _ _ _ _ h0 P hF
def FX4_explore (w : HS) (a0 : Nat) : Option (Int32 × HS) :=
  okb (hc w a0 == 4) (bnd (setA w a0 15 0 (0 : Int32)) fun w3 =>
  (FX4_explore_9 FUEL w3 a0 (1 : Int32)))
set_option maxHeartbeats 4000000 in
set_option maxRecDepth 100000 in
theorem rX4_explore {ar : Nat → Nat → Nat} {c0 : Nat → Nat} {sz : Nat} {g : PH} {w w' : HS} {a0 : Nat} {r : Int32} (P : Rel ar c0 sz g w) (hF : FX4_explore w a0 = some (r, w')) : GR ar c0 sz r w' (fX4_explore g a0) := by
  unfold FX4_explore at hF
  unfold fX4_explore
  replace hF := okb_some hF
  obtain ⟨h0, hF⟩ := hF
  replace h0 := P.cls h0
  refine GR.ok (P.rO h0 (by decide)) ?_
  refine GR.bind (P.getRa (k := 15) h0 (by decide) (by decide) (by decide)) ?_
  replace hF := bnd_e hF
  obtain ⟨w3, e4, hF⟩ := hF
  obtain ⟨g1, e2, P⟩ := P.sI (k := 15) (kd := 0) (j := (0 : Int32)) h0 (by decide) (by decide) (by decide) (by decide) (by decide) (by decide) e4
  refine GR.bind e2 ?_
  exact rX4_explore_9  _ _ _ _ _ h0 P hF
