def FX4_packedStep_86 (k11 : HS → Nat → Int32 → Int32 → Int64 → Int32 → Int32 → Option (Int64 × HS)) (w : HS) (v0 : Nat) (v1 : Int32) (v2 : Int32) (v6 : Int32) (v7 : Int32) (v9 : Int32) (s0 : Int32) (s1 : Int32) (s2 : Int64) : Option (Int64 × HS) :=
  k11 w v0 v1 v2 (s2 ||| (((s1 ||| s0) ||| (v9 &&& (3 : Int32))).toInt64 <<< (((7 : Int32) * v7).toInt64 &&& 63))) v6 (v7 + (1 : Int32))
set_option maxHeartbeats 4000000 in
set_option maxRecDepth 100000 in
theorem rX4_packedStep_86 {ar : Nat → Nat → Nat} {c0 : Nat → Nat} {sz : Nat} {r : Int64} {w' : HS} {k11 : HS → Nat → Int32 → Int32 → Int64 → Int32 → Int32 → Option (Int64 × HS)} {j11 : PH → Nat → Int32 → Int32 → Int64 → Int32 → Int32 → Option (Int64 × PH)} (hk11 : ∀ (g : PH) (w : HS) (v0 : Nat) (v1 : Int32) (v2 : Int32) (v4 : Int64) (v6 : Int32) (v7 : Int32), c0 v0 = 4 → Rel ar c0 sz g w → k11 w v0 v1 v2 v4 v6 v7 = some (r, w') → GR ar c0 sz r w' (j11 g v0 v1 v2 v4 v6 v7)) {g : PH} {w : HS} {v0 : Nat} {v1 : Int32} {v2 : Int32} {v6 : Int32} {v7 : Int32} {v9 : Int32} {s0 : Int32} {s1 : Int32} {s2 : Int64} (h0 : c0 v0 = 4) (P : Rel ar c0 sz g w) (hF : FX4_packedStep_86 k11 w v0 v1 v2 v6 v7 v9 s0 s1 s2 = some (r, w')) : GR ar c0 sz r w' (fX4_packedStep_86 j11 g v0 v1 v2 v6 v7 v9 s0 s1 s2) := by
  unfold FX4_packedStep_86 at hF
  unfold fX4_packedStep_86
  exact hk11 _ _ _ _ _ _ _ _ h0 P hF
def FX4_packedStep_65 (k11 : HS → Nat → Int32 → Int32 → Int64 → Int32 → Int32 → Option (Int64 × HS)) (w : HS) (v0 : Nat) (v1 : Int32) (v2 : Int32) (v4 : Int64) (v6 : Int32) (v7 : Int32) (s0 : Int32) : Option (Int64 × HS) :=
  okb (inb v1 78) (if (ha w v0 3 v1.toNatClampNeg) = 0 then (FX4_packedStep_86 (k11) w v0 v1 v2 v6 v7 s0 (0 : Int32) (v2 <<< ((3 : Int32) &&& 31)) v4) else
  (FX4_packedStep_86 (k11) w v0 v1 v2 v6 v7 s0 (4 : Int32) (v2 <<< ((3 : Int32) &&& 31)) v4))
set_option maxHeartbeats 4000000 in
set_option maxRecDepth 100000 in
theorem rX4_packedStep_65 {ar : Nat → Nat → Nat} {c0 : Nat → Nat} {sz : Nat} {r : Int64} {w' : HS} {k11 : HS → Nat → Int32 → Int32 → Int64 → Int32 → Int32 → Option (Int64 × HS)} {j11 : PH → Nat → Int32 → Int32 → Int64 → Int32 → Int32 → Option (Int64 × PH)} (hk11 : ∀ (g : PH) (w : HS) (v0 : Nat) (v1 : Int32) (v2 : Int32) (v4 : Int64) (v6 : Int32) (v7 : Int32), c0 v0 = 4 → Rel ar c0 sz g w → k11 w v0 v1 v2 v4 v6 v7 = some (r, w') → GR ar c0 sz r w' (j11 g v0 v1 v2 v4 v6 v7)) {g : PH} {w : HS} {v0 : Nat} {v1 : Int32} {v2 : Int32} {v4 : Int64} {v6 : Int32} {v7 : Int32} {s0 : Int32} (h0 : c0 v0 = 4) (P : Rel ar c0 sz g w) (hF : FX4_packedStep_65 k11 w v0 v1 v2 v4 v6 v7 s0 = some (r, w')) : GR ar c0 sz r w' (fX4_packedStep_65 j11 g v0 v1 v2 v4 v6 v7 s0) := by
  unfold FX4_packedStep_65 at hF
  unfold fX4_packedStep_65
  refine GR.bind (P.getRa (k := 3) h0 (by decide) (by decide) (by decide)) ?_
  replace hF := okb_some hF
  obtain ⟨h1, hF⟩ := hF
  refine GR.bind (P.dI (k := 3) (n := v1.toNatClampNeg) h0 (by decide) (by decide) (by decide) (by decide) h1 rfl) ?_
  by_cases c2 : (ha w v0 3 v1.toNatClampNeg) = 0
  · replace hF := ite_t c2 hF
    refine GR.t c2 ?_
    exact rX4_packedStep_86 hk11 h0 P hF
  replace hF := ite_f c2 hF
  refine GR.f c2 ?_
  exact rX4_packedStep_86 hk11 h0 P hF
def FX4_packedStep_49 (k11 : HS → Nat → Int32 → Int32 → Int64 → Int32 → Int32 → Option (Int64 × HS)) (w : HS) (v0 : Nat) (v1 : Int32) (v2 : Int32) (v4 : Int64) (v7 : Int32) (v8 : Int32) (s0 : Int32) : Option (Int64 × HS) :=
  if v8 = 0 then (FX4_packedStep_65 (k11) w v0 v1 v2 v4 s0 v7 s0) else
  (FX4_packedStep_65 (k11) w v0 v1 v2 v4 s0 v7 ((2 : Int32) + s0))
set_option maxHeartbeats 4000000 in
set_option maxRecDepth 100000 in
theorem rX4_packedStep_49 {ar : Nat → Nat → Nat} {c0 : Nat → Nat} {sz : Nat} {r : Int64} {w' : HS} {k11 : HS → Nat → Int32 → Int32 → Int64 → Int32 → Int32 → Option (Int64 × HS)} {j11 : PH → Nat → Int32 → Int32 → Int64 → Int32 → Int32 → Option (Int64 × PH)} (hk11 : ∀ (g : PH) (w : HS) (v0 : Nat) (v1 : Int32) (v2 : Int32) (v4 : Int64) (v6 : Int32) (v7 : Int32), c0 v0 = 4 → Rel ar c0 sz g w → k11 w v0 v1 v2 v4 v6 v7 = some (r, w') → GR ar c0 sz r w' (j11 g v0 v1 v2 v4 v6 v7)) {g : PH} {w : HS} {v0 : Nat} {v1 : Int32} {v2 : Int32} {v4 : Int64} {v7 : Int32} {v8 : Int32} {s0 : Int32} (h0 : c0 v0 = 4) (P : Rel ar c0 sz g w) (hF : FX4_packedStep_49 k11 w v0 v1 v2 v4 v7 v8 s0 = some (r, w')) : GR ar c0 sz r w' (fX4_packedStep_49 j11 g v0 v1 v2 v4 v7 v8 s0) := by
  unfold FX4_packedStep_49 at hF
  unfold fX4_packedStep_49
  by_cases c1 : v8 = 0
  · replace hF := ite_t c1 hF
    refine GR.t c1 ?_
    exact rX4_packedStep_65 hk11 h0 P hF
  replace hF := ite_f c1 hF
  refine GR.f c1 ?_
  exact rX4_packedStep_65 hk11 h0 P hF
def FX4_packedStep_11  : Nat → HS → Nat → Int32 → Int32 → Int64 → Int32 → Int32 → Option (Int64 × HS)
  | 0, _, _, _, _, _, _, _ => none
  | n + 1, w, v0, v1, v2, v4, v6, v7 =>
  okb (inb v1 78) (if (ha w v0 2 v1.toNatClampNeg) ≤ v7 then (some (v4, w)) else
  (okb (inb ((v1 * (3 : Int32)) + v7) 234) (if (ha w v0 4 ((v1 * (3 : Int32)) + v7).toNatClampNeg) = 0 then (FX4_packedStep_49 (FX4_packedStep_11 n) w v0 v1 v2 v4 v7 (ha w v0 4 ((v1 * (3 : Int32)) + v7).toNatClampNeg) v6) else
  (FX4_packedStep_49 (FX4_packedStep_11 n) w v0 v1 v2 v4 v7 (ha w v0 4 ((v1 * (3 : Int32)) + v7).toNatClampNeg) ((ha w v0 4 ((v1 * (3 : Int32)) + v7).toNatClampNeg) - (1 : Int32))))))
set_option maxHeartbeats 4000000 in
set_option maxRecDepth 100000 in
theorem rX4_packedStep_11 {ar : Nat → Nat → Nat} {c0 : Nat → Nat} {sz : Nat} {r : Int64} {w' : HS}   : ∀ (n : Nat) (g : PH) (w : HS) (v0 : Nat) (v1 : Int32) (v2 : Int32) (v4 : Int64) (v6 : Int32) (v7 : Int32), c0 v0 = 4 → Rel ar c0 sz g w → FX4_packedStep_11  n w v0 v1 v2 v4 v6 v7 = some (r, w') → GR ar c0 sz r w' (fX4_packedStep_11  n g v0 v1 v2 v4 v6 v7) := by
  intro n
  induction n with
  | zero =>
    intro g w v0 v1 v2 v4 v6 v7 h0 P hF
    rw [FX4_packedStep_11] at hF
    cases hF
  | succ n ih =>
    intro g w v0 v1 v2 v4 v6 v7 h0 P hF
    rw [FX4_packedStep_11] at hF
    rw [fX4_packedStep_11]
    refine GR.bind (P.getRa (k := 2) h0 (by decide) (by decide) (by decide)) ?_
    replace hF := okb_some hF
    obtain ⟨h1, hF⟩ := hF
    refine GR.bind (P.dI (k := 2) (n := v1.toNatClampNeg) h0 (by decide) (by decide) (by decide) (by decide) h1 rfl) ?_
    by_cases c2 : (ha w v0 2 v1.toNatClampNeg) ≤ v7
    · replace hF := ite_t c2 hF
      refine GR.t c2 ?_
      obtain ⟨f1, f2⟩ := finW hF
      subst f1
      subst f2
      exact GR.ret P
    replace hF := ite_f c2 hF
    refine GR.f c2 ?_
    refine GR.bind (P.getRa (k := 4) h0 (by decide) (by decide) (by decide)) ?_
    replace hF := okb_some hF
    obtain ⟨h3, hF⟩ := hF
    refine GR.bind (P.dI (k := 4) (n := ((v1 * (3 : Int32)) + v7).toNatClampNeg) h0 (by decide) (by decide) (by decide) (by decide) h3 rfl) ?_
    by_cases c4 : (ha w v0 4 ((v1 * (3 : Int32)) + v7).toNatClampNeg) = 0
    · replace hF := ite_t c4 hF
      refine GR.t c4 ?_
      exact rX4_packedStep_49 ih h0 P hF
    replace hF := ite_f c4 hF
    refine GR.f c4 ?_
    exact rX4_packedStep_49 ih h0 P hF
def FX4_packedStep (w : HS) (a0 : Nat) (a1 : Int32) (a2 : Int32) (a3 : Int32) : Option (Int64 × HS) :=
  okb (hc w a0 == 4) (FX4_packedStep_11 FUEL w a0 a1 a2 (0 : Int64) (a3 - (1 : Int32)) (0 : Int32))
set_option maxHeartbeats 4000000 in
set_option maxRecDepth 100000 in
theorem rX4_packedStep {ar : Nat → Nat → Nat} {c0 : Nat → Nat} {sz : Nat} {g : PH} {w w' : HS} {a0 : Nat} {a1 : Int32} {a2 : Int32} {a3 : Int32} {r : Int64} (P : Rel ar c0 sz g w) (hF : FX4_packedStep w a0 a1 a2 a3 = some (r, w')) : GR ar c0 sz r w' (fX4_packedStep g a0 a1 a2 a3) := by
  unfold FX4_packedStep at hF
  unfold fX4_packedStep
  replace hF := okb_some hF
  obtain ⟨h0, hF⟩ := hF
  replace h0 := P.cls h0
  refine GR.ok (P.rO h0 (by decide)) ?_
  exact rX4_packedStep_11  _ _ _ _ _ _ _ _ _ h0 P hF
def FX4_walkTo_59  : Nat → HS → Nat → Int32 → Int64 → Int32 → Int32 → Option (Int64 × HS)
  | 0, _, _, _, _, _, _ => none
  | n + 1, w, v0, v2, v4, v6, v7 =>
  if v7 < 0 then (some (v4, w)) else
  (if v6 ≤ 0 then (some (v4, w)) else
  (okb (inb v6 1201) (okb (inb v6 1201) (okb (inb (ha w v0 13 v6.toNatClampNeg) 78) (okb (inb v6 1201) (okb (inb (ha w v0 12 v6.toNatClampNeg) 1201) ((FX4_packedStep w v0 (ha w v0 13 v6.toNatClampNeg) v7 (ha w v0 11 (ha w v0 12 v6.toNatClampNeg).toNatClampNeg)).bind fun q8 =>
  (FX4_walkTo_59 n q8.2 v0 (v2 - (ha w v0 2 (ha w v0 13 v6.toNatClampNeg).toNatClampNeg)) (v4 ||| (q8.1 <<< (((7 : Int32) * (v2 - (ha w v0 2 (ha w v0 13 v6.toNatClampNeg).toNatClampNeg))).toInt64 &&& 63))) (ha w v0 12 v6.toNatClampNeg) (v7 + (-1 : Int32))))))))))
set_option maxHeartbeats 4000000 in
set_option maxRecDepth 100000 in
theorem rX4_walkTo_59 {ar : Nat → Nat → Nat} {c0 : Nat → Nat} {sz : Nat} {r : Int64} {w' : HS}   : ∀ (n : Nat) (g : PH) (w : HS) (v0 : Nat) (v2 : Int32) (v4 : Int64) (v6 : Int32) (v7 : Int32), c0 v0 = 4 → Rel ar c0 sz g w → FX4_walkTo_59  n w v0 v2 v4 v6 v7 = some (r, w') → GR ar c0 sz r w' (fX4_walkTo_59  n g v0 v2 v4 v6 v7) := by
  intro n
  induction n with
  | zero =>
    intro g w v0 v2 v4 v6 v7 h0 P hF
    rw [FX4_walkTo_59] at hF
    cases hF
  | succ n ih =>
    intro g w v0 v2 v4 v6 v7 h0 P hF
    rw [FX4_walkTo_59] at hF
    rw [fX4_walkTo_59]
    by_cases c1 : v7 < 0
    · replace hF := ite_t c1 hF
      refine GR.t c1 ?_
      obtain ⟨f1, f2⟩ := finW hF
      subst f1
      subst f2
      exact GR.ret P
    replace hF := ite_f c1 hF
    refine GR.f c1 ?_
    by_cases c2 : v6 ≤ 0
    · replace hF := ite_t c2 hF
      refine GR.t c2 ?_
      obtain ⟨f1, f2⟩ := finW hF
      subst f1
      subst f2
      exact GR.ret P
    replace hF := ite_f c2 hF
    refine GR.f c2 ?_
    refine GR.bind (P.getRa (k := 12) h0 (by decide) (by decide) (by decide)) ?_
    replace hF := okb_some hF
    obtain ⟨h3, hF⟩ := hF
    refine GR.bind (P.dI (k := 12) (n := v6.toNatClampNeg) h0 (by decide) (by decide) (by decide) (by decide) h3 rfl) ?_
    refine GR.bind (P.getRa (k := 2) h0 (by decide) (by decide) (by decide)) ?_
    refine GR.bind (P.getRa (k := 13) h0 (by decide) (by decide) (by decide)) ?_
    replace hF := okb_some hF
    obtain ⟨h4, hF⟩ := hF
    refine GR.bind (P.dI (k := 13) (n := v6.toNatClampNeg) h0 (by decide) (by decide) (by decide) (by decide) h4 rfl) ?_
    replace hF := okb_some hF
    obtain ⟨h5, hF⟩ := hF
    refine GR.bind (P.dI (k := 2) (n := (ha w v0 13 v6.toNatClampNeg).toNatClampNeg) h0 (by decide) (by decide) (by decide) (by decide) h5 rfl) ?_
    refine GR.bind (P.getRa (k := 13) h0 (by decide) (by decide) (by decide)) ?_
    replace hF := okb_some hF
    obtain ⟨h6, hF⟩ := hF
    refine GR.bind (P.dI (k := 13) (n := v6.toNatClampNeg) h0 (by decide) (by decide) (by decide) (by decide) h6 rfl) ?_
    refine GR.bind (P.getRa (k := 11) h0 (by decide) (by decide) (by decide)) ?_
    replace hF := okb_some hF
    obtain ⟨h7, hF⟩ := hF
    refine GR.bind (P.dI (k := 11) (n := (ha w v0 12 v6.toNatClampNeg).toNatClampNeg) h0 (by decide) (by decide) (by decide) (by decide) h7 rfl) ?_
    replace hF := ob_some hF
    obtain ⟨q8, h9, hF⟩ := hF
    obtain ⟨g10, e11, P⟩ := rX4_packedStep (r := q8.1) (w' := q8.2) P h9
    refine GR.bind e11 ?_
    exact ih _ _ _ _ _ _ _ h0 P hF
def FX4_walkTo_48  (w : HS) (v0 : Nat) (v1 : Int32) (v2 : Int32) (v3 : Int32) : Option (Int64 × HS) :=
  FX4_walkTo_59 FUEL w v0 v2 (0 : Int64) v1 (v3 - (1 : Int32))
set_option maxHeartbeats 4000000 in
set_option maxRecDepth 100000 in
theorem rX4_walkTo_48 {ar : Nat → Nat → Nat} {c0 : Nat → Nat} {sz : Nat} {r : Int64} {w' : HS}   {g : PH} {w : HS} {v0 : Nat} {v1 : Int32} {v2 : Int32} {v3 : Int32} (h0 : c0 v0 = 4) (P : Rel ar c0 sz g w) (hF : FX4_walkTo_48  w v0 v1 v2 v3 = some (r, w')) : GR ar c0 sz r w' (fX4_walkTo_48  g v0 v1 v2 v3) := by
  unfold FX4_walkTo_48 at hF
  unfold fX4_walkTo_48
  exact rX4_walkTo_59  _ _ _ _ _ _ _ _ h0 P hF
def FX4_walkTo_7  : Nat → HS → Nat → Int32 → Int32 → Int32 → Int32 → Option (Int64 × HS)
  | 0, _, _, _, _, _, _ => none
  | n + 1, w, v0, v1, v2, v3, v4 =>
  if v4 ≤ 0 then (FX4_walkTo_48 w v0 v1 v2 v3) else
  (if (9 : Int32) ≤ v3 then (FX4_walkTo_48 w v0 v1 v2 v3) else
  (okb (inb v4 1201) (okb (inb (ha w v0 13 v4.toNatClampNeg) 78) (okb (inb v4 1201) (FX4_walkTo_7 n w v0 v1 (v2 + (ha w v0 2 (ha w v0 13 v4.toNatClampNeg).toNatClampNeg)) (v3 + (1 : Int32)) (ha w v0 12 v4.toNatClampNeg))))))
set_option maxHeartbeats 4000000 in
set_option maxRecDepth 100000 in
theorem rX4_walkTo_7 {ar : Nat → Nat → Nat} {c0 : Nat → Nat} {sz : Nat} {r : Int64} {w' : HS}   : ∀ (n : Nat) (g : PH) (w : HS) (v0 : Nat) (v1 : Int32) (v2 : Int32) (v3 : Int32) (v4 : Int32), c0 v0 = 4 → Rel ar c0 sz g w → FX4_walkTo_7  n w v0 v1 v2 v3 v4 = some (r, w') → GR ar c0 sz r w' (fX4_walkTo_7  n g v0 v1 v2 v3 v4) := by
  intro n
  induction n with
  | zero =>
    intro g w v0 v1 v2 v3 v4 h0 P hF
    rw [FX4_walkTo_7] at hF
    cases hF
  | succ n ih =>
    intro g w v0 v1 v2 v3 v4 h0 P hF
    rw [FX4_walkTo_7] at hF
    rw [fX4_walkTo_7]
    by_cases c1 : v4 ≤ 0
    · replace hF := ite_t c1 hF
      refine GR.t c1 ?_
      exact rX4_walkTo_48  h0 P hF
    replace hF := ite_f c1 hF
    refine GR.f c1 ?_
    by_cases c2 : (9 : Int32) ≤ v3
    · replace hF := ite_t c2 hF
      refine GR.t c2 ?_
      exact rX4_walkTo_48  h0 P hF
    replace hF := ite_f c2 hF
    refine GR.f c2 ?_
    refine GR.bind (P.getRa (k := 2) h0 (by decide) (by decide) (by decide)) ?_
    refine GR.bind (P.getRa (k := 13) h0 (by decide) (by decide) (by decide)) ?_
    replace hF := okb_some hF
    obtain ⟨h3, hF⟩ := hF
    refine GR.bind (P.dI (k := 13) (n := v4.toNatClampNeg) h0 (by decide) (by decide) (by decide) (by decide) h3 rfl) ?_
    replace hF := okb_some hF
    obtain ⟨h4, hF⟩ := hF
    refine GR.bind (P.dI (k := 2) (n := (ha w v0 13 v4.toNatClampNeg).toNatClampNeg) h0 (by decide) (by decide) (by decide) (by decide) h4 rfl) ?_
    refine GR.bind (P.getRa (k := 12) h0 (by decide) (by decide) (by decide)) ?_
    replace hF := okb_some hF
    obtain ⟨h5, hF⟩ := hF
    refine GR.bind (P.dI (k := 12) (n := v4.toNatClampNeg) h0 (by decide) (by decide) (by decide) (by decide) h5 rfl) ?_
    exact ih _ _ _ _ _ _ _ h0 P hF
def FX4_walkTo (w : HS) (a0 : Nat) (a1 : Int32) : Option (Int64 × HS) :=
  okb (hc w a0 == 4) (FX4_walkTo_7 FUEL w a0 a1 (0 : Int32) (0 : Int32) a1)
set_option maxHeartbeats 4000000 in
set_option maxRecDepth 100000 in
theorem rX4_walkTo {ar : Nat → Nat → Nat} {c0 : Nat → Nat} {sz : Nat} {g : PH} {w w' : HS} {a0 : Nat} {a1 : Int32} {r : Int64} (P : Rel ar c0 sz g w) (hF : FX4_walkTo w a0 a1 = some (r, w')) : GR ar c0 sz r w' (fX4_walkTo g a0 a1) := by
  unfold FX4_walkTo at hF
  unfold fX4_walkTo
  replace hF := okb_some hF
  obtain ⟨h0, hF⟩ := hF
  replace h0 := P.cls h0
  refine GR.ok (P.rO h0 (by decide)) ?_
  exact rX4_walkTo_7  _ _ _ _ _ _ _ _ h0 P hF
def FX4_solve_100 (k30 : HS → Nat → Int32 → Nat → Int32 → Option (Unit × HS)) (w : HS) (v0 : Nat) (v1 : Int32) (v2 : Nat) (v3 : Int32) : Option (Unit × HS) :=
  k30 w v0 v1 v2 (v3 + (1 : Int32))
set_option maxHeartbeats 4000000 in
set_option maxRecDepth 100000 in
theorem rX4_solve_100 {ar : Nat → Nat → Nat} {c0 : Nat → Nat} {sz : Nat} {r : Unit} {w' : HS} {k30 : HS → Nat → Int32 → Nat → Int32 → Option (Unit × HS)} {j30 : PH → Nat → Int32 → Nat → Int32 → Option (Unit × PH)} (hk30 : ∀ (g : PH) (w : HS) (v0 : Nat) (v1 : Int32) (v2 : Nat) (v3 : Int32), c0 v0 = 4 → Rel ar c0 sz g w → k30 w v0 v1 v2 v3 = some (r, w') → GR ar c0 sz r w' (j30 g v0 v1 (ar v2 1) v3)) {g : PH} {w : HS} {v0 : Nat} {v1 : Int32} {v2 : Nat} {v3 : Int32} (h0 : c0 v0 = 4) (P : Rel ar c0 sz g w) (hF : FX4_solve_100 k30 w v0 v1 v2 v3 = some (r, w')) : GR ar c0 sz r w' (fX4_solve_100 j30 g v0 v1 (ar v2 1) v3) := by
  unfold FX4_solve_100 at hF
  unfold fX4_solve_100
  exact hk30 _ _ _ _ _ _ h0 P hF
def FX4_solve_106  (w : HS) (v0 : Nat) (v1 : Int32) : Option (Unit × HS) :=
  bnd (filR w v0 4 14 (0 : Int32)) fun w1 =>
  (bnd (setA w1 v0 11 0 (0 : Int32)) fun w7 =>
  ((FX4_slotOf w7 v0 (0 : Int32)).bind fun q9 =>
  (okb (inb q9.1 4096) (bnd (setA q9.2 v0 14 q9.1.toNatClampNeg (1 : Int32)) fun w16 =>
  (bnd (setI w16 v0 9 (1 : Int32)) fun w18 =>
  ((FX4_explore w18 v0).bind fun q22 =>
  (okb (inb v1 256) (bnd (setA q22.2 v0 0 v1.toNatClampNeg q22.1) fun w29 =>
  (okb (inb v1 256) (if (ha w29 v0 0 v1.toNatClampNeg) ≤ 0 then (some ((), w29)) else
  ((FX4_walkTo w29 v0 (hi w29 v0 9)).bind fun q33 =>
  (okb (inb v1 256) (bnd (setJ q33.2 v0 1 (v1.toNatClampNeg) q33.1) fun w40 =>
  (some ((), w40)))))))))))))))
set_option maxHeartbeats 4000000 in
set_option maxRecDepth 100000 in
theorem rX4_solve_106 {ar : Nat → Nat → Nat} {c0 : Nat → Nat} {sz : Nat} {r : Unit} {w' : HS}   {g : PH} {w : HS} {v0 : Nat} {v1 : Int32} (h0 : c0 v0 = 4) (P : Rel ar c0 sz g w) (hF : FX4_solve_106  w v0 v1 = some (r, w')) : GR ar c0 sz r w' (fX4_solve_106  g v0 v1) := by
  unfold FX4_solve_106 at hF
  unfold fX4_solve_106
  refine GR.bind (P.getRa (k := 14) h0 (by decide) (by decide) (by decide)) ?_
  replace hF := bnd_e hF
  obtain ⟨w1, e2, hF⟩ := hF
  obtain ⟨g3, e4, P⟩ := P.fil (k := 14) h0 (by decide) (by decide) (by decide) (by decide) (by decide) e2
  refine GR.bind e4 ?_
  refine GR.bind (P.getRa (k := 11) h0 (by decide) (by decide) (by decide)) ?_
  replace hF := bnd_e hF
  obtain ⟨w7, e8, hF⟩ := hF
  obtain ⟨g5, e6, P⟩ := P.sI (k := 11) (kd := 0) (j := (0 : Int32)) h0 (by decide) (by decide) (by decide) (by decide) (by decide) (by decide) e8
  refine GR.bind e6 ?_
  refine GR.bind (P.getRa (k := 14) h0 (by decide) (by decide) (by decide)) ?_
  replace hF := ob_some hF
  obtain ⟨q9, h10, hF⟩ := hF
  obtain ⟨g11, e12, P⟩ := rX4_slotOf (r := q9.1) (w' := q9.2) P h10
  refine GR.bind e12 ?_
  replace hF := okb_some hF
  obtain ⟨h13, hF⟩ := hF
  replace hF := bnd_e hF
  obtain ⟨w16, e17, hF⟩ := hF
  obtain ⟨g14, e15, P⟩ := P.sI (k := 14) (kd := 0) (j := q9.1) h0 (by decide) (by decide) (by decide) (by decide) h13 rfl e17
  refine GR.bind e15 ?_
  replace hF := bnd_e hF
  obtain ⟨w18, e19, hF⟩ := hF
  obtain ⟨g20, e21, P⟩ := P.putI (k := 9) h0 (by decide) (by decide) (by decide) e19
  refine GR.bind e21 ?_
  refine GR.bind (P.getRa (k := 0) h0 (by decide) (by decide) (by decide)) ?_
  replace hF := ob_some hF
  obtain ⟨q22, h23, hF⟩ := hF
  obtain ⟨g24, e25, P⟩ := rX4_explore (r := q22.1) (w' := q22.2) P h23
  refine GR.bind e25 ?_
  replace hF := okb_some hF
  obtain ⟨h26, hF⟩ := hF
  replace hF := bnd_e hF
  obtain ⟨w29, e30, hF⟩ := hF
  obtain ⟨g27, e28, P⟩ := P.sI (k := 0) (kd := 0) (j := v1) h0 (by decide) (by decide) (by decide) (by decide) h26 rfl e30
  refine GR.bind e28 ?_
  refine GR.bind (P.getRa (k := 0) h0 (by decide) (by decide) (by decide)) ?_
  replace hF := okb_some hF
  obtain ⟨h31, hF⟩ := hF
  refine GR.bind (P.dI (k := 0) (n := v1.toNatClampNeg) h0 (by decide) (by decide) (by decide) (by decide) h31 rfl) ?_
  by_cases c32 : (ha w29 v0 0 v1.toNatClampNeg) ≤ 0
  · replace hF := ite_t c32 hF
    refine GR.t c32 ?_
    obtain ⟨f1, f2⟩ := finW hF
    subst f1
    subst f2
    exact GR.ret P
  replace hF := ite_f c32 hF
  refine GR.f c32 ?_
  refine GR.bind (P.getRa (k := 1) h0 (by decide) (by decide) (by decide)) ?_
  refine GR.bind (P.rI (k := 9) h0 (by decide) (by decide) (by decide)) ?_
  replace hF := ob_some hF
  obtain ⟨q33, h34, hF⟩ := hF
  obtain ⟨g35, e36, P⟩ := rX4_walkTo (r := q33.1) (w' := q33.2) P h34
  refine GR.bind e36 ?_
  replace hF := okb_some hF
  obtain ⟨h37, hF⟩ := hF
  replace hF := bnd_e hF
  obtain ⟨w40, e41, hF⟩ := hF
  obtain ⟨g38, e39, P⟩ := P.sL (k := 1) (j := v1) h0 (by decide) (by decide) (by decide) h37 rfl e41
  refine GR.bind e39 ?_
  obtain ⟨f1, f2⟩ := finW hF
  subst f1
  subst f2
  exact GR.ret P
def FX4_solve_30  : Nat → HS → Nat → Int32 → Nat → Int32 → Option (Unit × HS)
  | 0, _, _, _, _, _ => none
  | n + 1, w, v0, v1, v2, v3 =>
  if (8 : Int32) ≤ v3 then (FX4_solve_106 w v0 v1) else
  (okb (hc w v2 == 8) (if (8 : Int32) ≤ v3 then (FX4_solve_106 w v0 v1) else
  (if ((v1 >>> (v3 &&& 31)) &&& (1 : Int32)) = (1 : Int32) then (okb (inb v3 8) ((hq w v2 1 (v3.toNatClampNeg)).elim (FX4_solve_100 (FX4_solve_30 n) w v0 v1 v2 v3) (fun p6 =>
  okb (inb v3 8) ((hq w v2 1 (v3.toNatClampNeg)).bind fun p9 =>
  ((FX4_learn w v0 v3 p9).bind fun q11 =>
  (okb (inb (hi q11.2 v0 8) 8) (bnd (setA q11.2 v0 7 (hi q11.2 v0 8).toNatClampNeg v3) fun w18 =>
  (okb (inb v3 8) ((hq w18 v2 1 (v3.toNatClampNeg)).bind fun p21 =>
  ((FX4_firstCode w18 p21).bind fun q23 =>
  (okb (inb (hi w18 v0 8) 9608) (bnd (setA q23.2 v0 10 (hi w18 v0 8).toNatClampNeg q23.1) fun w30 =>
  (bnd (setI w30 v0 8 ((hi w30 v0 8) + (1 : Int32))) fun w32 =>
  (FX4_solve_100 (FX4_solve_30 n) w32 v0 v1 v2 v3)))))))))))))) else
  (FX4_solve_100 (FX4_solve_30 n) w v0 v1 v2 v3))))
set_option maxHeartbeats 4000000 in
set_option maxRecDepth 100000 in
theorem rX4_solve_30 {ar : Nat → Nat → Nat} {c0 : Nat → Nat} {sz : Nat} {r : Unit} {w' : HS}   : ∀ (n : Nat) (g : PH) (w : HS) (v0 : Nat) (v1 : Int32) (v2 : Nat) (v3 : Int32), c0 v0 = 4 → Rel ar c0 sz g w → FX4_solve_30  n w v0 v1 v2 v3 = some (r, w') → GR ar c0 sz r w' (fX4_solve_30  n g v0 v1 (ar v2 1) v3) := by
  intro n
  induction n with
  | zero =>
    intro g w v0 v1 v2 v3 h0 P hF
    rw [FX4_solve_30] at hF
    cases hF
  | succ n ih =>
    intro g w v0 v1 v2 v3 h0 P hF
    rw [FX4_solve_30] at hF
    rw [fX4_solve_30]
    by_cases c1 : (8 : Int32) ≤ v3
    · replace hF := ite_t c1 hF
      refine GR.t c1 ?_
      exact rX4_solve_106  h0 P hF
    replace hF := ite_f c1 hF
    refine GR.f c1 ?_
    replace hF := okb_some hF
    obtain ⟨h2, hF⟩ := hF
    replace h2 := P.cls h2
    refine GR.bind (P.dN (k := 1) (j := (8 : Int32)) h2 (by decide) (by decide) (by decide) (by decide) (by decide)) ?_
    by_cases c3 : (8 : Int32) ≤ v3
    · replace hF := ite_t c3 hF
      refine GR.t c3 ?_
      exact rX4_solve_106  h0 P hF
    replace hF := ite_f c3 hF
    refine GR.f c3 ?_
    by_cases c4 : ((v1 >>> (v3 &&& 31)) &&& (1 : Int32)) = (1 : Int32)
    · replace hF := ite_t c4 hF
      refine GR.t c4 ?_
      replace hF := okb_some hF
      obtain ⟨h5, hF⟩ := hF
      refine GR.bind (P.dQ (k := 1) (n := v3.toNatClampNeg) h2 (by decide) (by decide) (by decide) (by decide) h5 rfl) ?_
      by_cases h7 : (hq w v2 1 (v3.toNatClampNeg)) = none
      · replace hF := el_n h7 hF
        refine GR.en h7 ?_
        exact rX4_solve_100 ih h0 P hF
      obtain ⟨p6, h7⟩ := Option.ne_none_iff_exists'.mp h7
      replace hF := el_s h7 hF
      refine GR.es h7 ?_
      replace hF := okb_some hF
      obtain ⟨h8, hF⟩ := hF
      refine GR.bind (P.dQ (k := 1) (n := v3.toNatClampNeg) h2 (by decide) (by decide) (by decide) (by decide) h8 rfl) ?_
      replace hF := ob_some hF
      obtain ⟨p9, h10, hF⟩ := hF
      refine GR.bind h10 ?_
      replace hF := ob_some hF
      obtain ⟨q11, h12, hF⟩ := hF
      obtain ⟨g13, e14, P⟩ := rX4_learn (r := q11.1) (w' := q11.2) P h12
      refine GR.bind e14 ?_
      refine GR.bind (P.getRa (k := 7) h0 (by decide) (by decide) (by decide)) ?_
      refine GR.bind (P.rI (k := 8) h0 (by decide) (by decide) (by decide)) ?_
      replace hF := okb_some hF
      obtain ⟨h15, hF⟩ := hF
      replace hF := bnd_e hF
      obtain ⟨w18, e19, hF⟩ := hF
      obtain ⟨g16, e17, P⟩ := P.sI (k := 7) (kd := 0) (j := (hi q11.2 v0 8)) h0 (by decide) (by decide) (by decide) (by decide) h15 rfl e19
      refine GR.bind e17 ?_
      refine GR.bind (P.getRa (k := 10) h0 (by decide) (by decide) (by decide)) ?_
      refine GR.bind (P.rI (k := 8) h0 (by decide) (by decide) (by decide)) ?_
      replace hF := okb_some hF
      obtain ⟨h20, hF⟩ := hF
      refine GR.bind (P.dQ (k := 1) (n := v3.toNatClampNeg) h2 (by decide) (by decide) (by decide) (by decide) h20 rfl) ?_
      replace hF := ob_some hF
      obtain ⟨p21, h22, hF⟩ := hF
      refine GR.bind h22 ?_
      replace hF := ob_some hF
      obtain ⟨q23, h24, hF⟩ := hF
      obtain ⟨g25, e26, P⟩ := rX4_firstCode (r := q23.1) (w' := q23.2) P h24
      refine GR.bind e26 ?_
      replace hF := okb_some hF
      obtain ⟨h27, hF⟩ := hF
      replace hF := bnd_e hF
      obtain ⟨w30, e31, hF⟩ := hF
      obtain ⟨g28, e29, P⟩ := P.sI (k := 10) (kd := 0) (j := (hi w18 v0 8)) h0 (by decide) (by decide) (by decide) (by decide) h27 rfl e31
      refine GR.bind e29 ?_
      refine GR.bind (P.rI (k := 8) h0 (by decide) (by decide) (by decide)) ?_
      replace hF := bnd_e hF
      obtain ⟨w32, e33, hF⟩ := hF
      obtain ⟨g34, e35, P⟩ := P.putI (k := 8) h0 (by decide) (by decide) (by decide) e33
      refine GR.bind e35 ?_
      exact rX4_solve_100 ih h0 P hF
    replace hF := ite_f c4 hF
    refine GR.f c4 ?_
    exact rX4_solve_100 ih h0 P hF
def FX4_solve (w : HS) (a0 : Nat) (a1 : Int32) (a2 : Nat) : Option (Unit × HS) :=
  okb (hc w a0 == 4) (if a1 ≤ 0 then (some ((), w)) else
  (if (256 : Int32) ≤ a1 then (some ((), w)) else
  (okb (inb a1 256) (if (ha w a0 0 a1.toNatClampNeg) = 0 then (bnd (setI w a0 8 (0 : Int32)) fun w5 =>
  (FX4_solve_30 FUEL w5 a0 a1 a2 (0 : Int32))) else
  (some ((), w))))))
set_option maxHeartbeats 4000000 in
set_option maxRecDepth 100000 in
theorem rX4_solve {ar : Nat → Nat → Nat} {c0 : Nat → Nat} {sz : Nat} {g : PH} {w w' : HS} {a0 : Nat} {a1 : Int32} {a2 : Nat} {r : Unit} (P : Rel ar c0 sz g w) (hF : FX4_solve w a0 a1 a2 = some (r, w')) : GR ar c0 sz r w' (fX4_solve g a0 a1 (ar a2 1)) := by
  unfold FX4_solve at hF
  unfold fX4_solve
  replace hF := okb_some hF
  obtain ⟨h0, hF⟩ := hF
  replace h0 := P.cls h0
  refine GR.ok (P.rO h0 (by decide)) ?_
  by_cases c1 : a1 ≤ 0
  · replace hF := ite_t c1 hF
    refine GR.t c1 ?_
    obtain ⟨f1, f2⟩ := finW hF
    subst f1
    subst f2
    exact GR.ret P
  replace hF := ite_f c1 hF
  refine GR.f c1 ?_
  refine GR.bind (P.getRa (k := 0) h0 (by decide) (by decide) (by decide)) ?_
  refine GR.bind (P.dN (k := 0) (j := (256 : Int32)) h0 (by decide) (by decide) (by decide) (by decide) (by decide)) ?_
  by_cases c2 : (256 : Int32) ≤ a1
  · replace hF := ite_t c2 hF
    refine GR.t c2 ?_
    obtain ⟨f1, f2⟩ := finW hF
    subst f1
    subst f2
    exact GR.ret P
  replace hF := ite_f c2 hF
  refine GR.f c2 ?_
  refine GR.bind (P.getRa (k := 0) h0 (by decide) (by decide) (by decide)) ?_
  replace hF := okb_some hF
  obtain ⟨h3, hF⟩ := hF
  refine GR.bind (P.dI (k := 0) (n := a1.toNatClampNeg) h0 (by decide) (by decide) (by decide) (by decide) h3 rfl) ?_
  by_cases c4 : (ha w a0 0 a1.toNatClampNeg) = 0
  · replace hF := ite_t c4 hF
    refine GR.t c4 ?_
    replace hF := bnd_e hF
    obtain ⟨w5, e6, hF⟩ := hF
    obtain ⟨g7, e8, P⟩ := P.putI (k := 8) h0 (by decide) (by decide) (by decide) e6
    refine GR.bind e8 ?_
    exact rX4_solve_30  _ _ _ _ _ _ _ h0 P hF
  replace hF := ite_f c4 hF
  refine GR.f c4 ?_
  obtain ⟨f1, f2⟩ := finW hF
  subst f1
  subst f2
  exact GR.ret P
