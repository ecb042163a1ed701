def FX9_begins_66  : Nat → HS → Nat → Int32 → Option (Unit × HS)
  | 0, _, _, _ => none
  | n + 1, w, v0, v2 =>
  if (6 : Int32) ≤ v2 then (bnd (setI w v0 19 (0 : Int32)) fun w2 =>
  (some ((), w2))) else
  (okb (inb ((4 : Int32) + v2) 133) (bnd (setA w v0 16 ((4 : Int32) + v2).toNatClampNeg v2) fun w9 =>
  (FX9_begins_66 n w9 v0 (v2 + (1 : Int32)))))
set_option maxHeartbeats 4000000 in
set_option maxRecDepth 100000 in
theorem rX9_begins_66 {ar : Nat → Nat → Nat} {c0 : Nat → Nat} {sz : Nat} {r : Unit} {w' : HS}   : ∀ (n : Nat) (g : PH) (w : HS) (v0 : Nat) (v2 : Int32), c0 v0 = 9 → Rel ar c0 sz g w → FX9_begins_66  n w v0 v2 = some (r, w') → GR ar c0 sz r w' (fX9_begins_66  n g v0 v2) := by
  intro n
  induction n with
  | zero =>
    intro g w v0 v2 h0 P hF
    rw [FX9_begins_66] at hF
    cases hF
  | succ n ih =>
    intro g w v0 v2 h0 P hF
    rw [FX9_begins_66] at hF
    rw [fX9_begins_66]
    by_cases c1 : (6 : Int32) ≤ v2
    · replace hF := ite_t c1 hF
      refine GR.t c1 ?_
      replace hF := bnd_e hF
      obtain ⟨w2, e3, hF⟩ := hF
      obtain ⟨g4, e5, P⟩ := P.putI (k := 19) h0 (by decide) (by decide) (by decide) e3
      refine GR.bind e5 ?_
      obtain ⟨f1, f2⟩ := finW hF
      subst f1
      subst f2
      exact GR.ret P
    replace hF := ite_f c1 hF
    refine GR.f c1 ?_
    refine GR.bind (P.getRa (k := 16) h0 (by decide) (by decide) (by decide)) ?_
    replace hF := okb_some hF
    obtain ⟨h6, hF⟩ := hF
    replace hF := bnd_e hF
    obtain ⟨w9, e10, hF⟩ := hF
    obtain ⟨g7, e8, P⟩ := P.sI (k := 16) (kd := 0) (j := ((4 : Int32) + v2)) h0 (by decide) (by decide) (by decide) (by decide) h6 rfl e10
    refine GR.bind e8 ?_
    exact ih _ _ _ _ h0 P hF
def FX9_begins_7  : Nat → HS → Nat → Int32 → Option (Unit × HS)
  | 0, _, _, _ => none
  | n + 1, w, v0, v2 =>
  if (133 : Int32) ≤ v2 then (bnd (setA w v0 16 1 (-1 : Int32)) fun w4 =>
  (bnd (setA w4 v0 16 2 (-1 : Int32)) fun w8 =>
  (bnd (setA w8 v0 16 3 (-1 : Int32)) fun w12 =>
  (bnd (setA w12 v0 16 10 (-1 : Int32)) fun w16 =>
  (bnd (setA w16 v0 16 12 (-1 : Int32)) fun w20 =>
  (FX9_begins_66 FUEL w20 v0 (0 : Int32))))))) else
  (okb (inb v2 133) (bnd (setA w v0 16 v2.toNatClampNeg (0 : Int32)) fun w25 =>
  (FX9_begins_7 n w25 v0 (v2 + (1 : Int32)))))
set_option maxHeartbeats 4000000 in
set_option maxRecDepth 100000 in
theorem rX9_begins_7 {ar : Nat → Nat → Nat} {c0 : Nat → Nat} {sz : Nat} {r : Unit} {w' : HS}   : ∀ (n : Nat) (g : PH) (w : HS) (v0 : Nat) (v2 : Int32), c0 v0 = 9 → Rel ar c0 sz g w → FX9_begins_7  n w v0 v2 = some (r, w') → GR ar c0 sz r w' (fX9_begins_7  n g v0 v2) := by
  intro n
  induction n with
  | zero =>
    intro g w v0 v2 h0 P hF
    rw [FX9_begins_7] at hF
    cases hF
  | succ n ih =>
    intro g w v0 v2 h0 P hF
    rw [FX9_begins_7] at hF
    rw [fX9_begins_7]
    by_cases c1 : (133 : Int32) ≤ v2
    · replace hF := ite_t c1 hF
      refine GR.t c1 ?_
      refine GR.bind (P.getRa (k := 16) h0 (by decide) (by decide) (by decide)) ?_
      replace hF := bnd_e hF
      obtain ⟨w4, e5, hF⟩ := hF
      obtain ⟨g2, e3, P⟩ := P.sI (k := 16) (kd := 0) (j := (1 : Int32)) h0 (by decide) (by decide) (by decide) (by decide) (by decide) (by decide) e5
      refine GR.bind e3 ?_
      refine GR.bind (P.getRa (k := 16) h0 (by decide) (by decide) (by decide)) ?_
      replace hF := bnd_e hF
      obtain ⟨w8, e9, hF⟩ := hF
      obtain ⟨g6, e7, P⟩ := P.sI (k := 16) (kd := 0) (j := (2 : Int32)) h0 (by decide) (by decide) (by decide) (by decide) (by decide) (by decide) e9
      refine GR.bind e7 ?_
      refine GR.bind (P.getRa (k := 16) h0 (by decide) (by decide) (by decide)) ?_
      replace hF := bnd_e hF
      obtain ⟨w12, e13, hF⟩ := hF
      obtain ⟨g10, e11, P⟩ := P.sI (k := 16) (kd := 0) (j := (3 : Int32)) h0 (by decide) (by decide) (by decide) (by decide) (by decide) (by decide) e13
      refine GR.bind e11 ?_
      refine GR.bind (P.getRa (k := 16) h0 (by decide) (by decide) (by decide)) ?_
      replace hF := bnd_e hF
      obtain ⟨w16, e17, hF⟩ := hF
      obtain ⟨g14, e15, P⟩ := P.sI (k := 16) (kd := 0) (j := (10 : Int32)) h0 (by decide) (by decide) (by decide) (by decide) (by decide) (by decide) e17
      refine GR.bind e15 ?_
      refine GR.bind (P.getRa (k := 16) h0 (by decide) (by decide) (by decide)) ?_
      replace hF := bnd_e hF
      obtain ⟨w20, e21, hF⟩ := hF
      obtain ⟨g18, e19, P⟩ := P.sI (k := 16) (kd := 0) (j := (12 : Int32)) h0 (by decide) (by decide) (by decide) (by decide) (by decide) (by decide) e21
      refine GR.bind e19 ?_
      exact rX9_begins_66  _ _ _ _ _ h0 P hF
    replace hF := ite_f c1 hF
    refine GR.f c1 ?_
    refine GR.bind (P.getRa (k := 16) h0 (by decide) (by decide) (by decide)) ?_
    replace hF := okb_some hF
    obtain ⟨h22, hF⟩ := hF
    replace hF := bnd_e hF
    obtain ⟨w25, e26, hF⟩ := hF
    obtain ⟨g23, e24, P⟩ := P.sI (k := 16) (kd := 0) (j := v2) h0 (by decide) (by decide) (by decide) (by decide) h22 rfl e26
    refine GR.bind e24 ?_
    exact ih _ _ _ _ h0 P hF
def FX9_begins (w : HS) (a0 : Nat) (a1 : Int32) : Option (Unit × HS) :=
  okb (hc w a0 == 9) (bnd (setI w a0 15 a1) fun w1 =>
  (FX9_begins_7 FUEL w1 a0 (0 : Int32)))
set_option maxHeartbeats 4000000 in
set_option maxRecDepth 100000 in
theorem rX9_begins {ar : Nat → Nat → Nat} {c0 : Nat → Nat} {sz : Nat} {g : PH} {w w' : HS} {a0 : Nat} {a1 : Int32} {r : Unit} (P : Rel ar c0 sz g w) (hF : FX9_begins w a0 a1 = some (r, w')) : GR ar c0 sz r w' (fX9_begins g a0 a1) := by
  unfold FX9_begins at hF
  unfold fX9_begins
  replace hF := okb_some hF
  obtain ⟨h0, hF⟩ := hF
  replace h0 := P.cls h0
  refine GR.ok (P.rO h0 (by decide)) ?_
  replace hF := bnd_e hF
  obtain ⟨w1, e2, hF⟩ := hF
  obtain ⟨g3, e4, P⟩ := P.putI (k := 15) h0 (by decide) (by decide) (by decide) e2
  refine GR.bind e4 ?_
  exact rX9_begins_7  _ _ _ _ _ h0 P hF
def FX9_isIn (w : HS) (a0 : Int64) (a1 : Int64) (a2 : Int64) : Option (Int32 × HS) :=
  if (lg_cmp a0 a1) < 0 then (some ((0 : Int32), w)) else
  (if 0 < (lg_cmp a0 a2) then (some ((0 : Int32), w)) else
  (some ((1 : Int32), w)))
set_option maxHeartbeats 4000000 in
set_option maxRecDepth 100000 in
theorem rX9_isIn {ar : Nat → Nat → Nat} {c0 : Nat → Nat} {sz : Nat} {g : PH} {w w' : HS} {a0 : Int64} {a1 : Int64} {a2 : Int64} {r : Int32} (P : Rel ar c0 sz g w) (hF : FX9_isIn w a0 a1 a2 = some (r, w')) : GR ar c0 sz r w' (fX9_isIn g a0 a1 a2) := by
  unfold FX9_isIn at hF
  unfold fX9_isIn
  by_cases c1 : (lg_cmp a0 a1) < 0
  · replace hF := ite_t c1 hF
    refine GR.t c1 ?_
    obtain ⟨f1, f2⟩ := finW hF
    subst f1
    subst f2
    exact GR.ret P
  replace hF := ite_f c1 hF
  refine GR.f c1 ?_
  by_cases c2 : 0 < (lg_cmp a0 a2)
  · replace hF := ite_t c2 hF
    refine GR.t c2 ?_
    obtain ⟨f1, f2⟩ := finW hF
    subst f1
    subst f2
    exact GR.ret P
  replace hF := ite_f c2 hF
  refine GR.f c2 ?_
  obtain ⟨f1, f2⟩ := finW hF
  subst f1
  subst f2
  exact GR.ret P
def FX9_has (w : HS) (a0 : Int32) (a1 : Int32) : Option (Int32 × HS) :=
  if ((a0 >>> (a1 &&& 31)) &&& (1 : Int32)) = (1 : Int32) then (some ((1 : Int32), w)) else
  (some ((0 : Int32), w))
set_option maxHeartbeats 4000000 in
set_option maxRecDepth 100000 in
theorem rX9_has {ar : Nat → Nat → Nat} {c0 : Nat → Nat} {sz : Nat} {g : PH} {w w' : HS} {a0 : Int32} {a1 : Int32} {r : Int32} (P : Rel ar c0 sz g w) (hF : FX9_has w a0 a1 = some (r, w')) : GR ar c0 sz r w' (fX9_has g a0 a1) := by
  unfold FX9_has at hF
  unfold fX9_has
  by_cases c1 : ((a0 >>> (a1 &&& 31)) &&& (1 : Int32)) = (1 : Int32)
  · replace hF := ite_t c1 hF
    refine GR.t c1 ?_
    obtain ⟨f1, f2⟩ := finW hF
    subst f1
    subst f2
    exact GR.ret P
  replace hF := ite_f c1 hF
  refine GR.f c1 ?_
  obtain ⟨f1, f2⟩ := finW hF
  subst f1
  subst f2
  exact GR.ret P
def FX9_with (w : HS) (a0 : Int32) (a1 : Int32) (a2 : Int32) : Option (Int32 × HS) :=
  if a2 = (1 : Int32) then (some ((a0 ||| ((1 : Int32) <<< (a1 &&& 31))), w)) else
  (some ((a0 &&& (((1 : Int32) <<< (a1 &&& 31)) ^^^ (-1 : Int32))), w))
set_option maxHeartbeats 4000000 in
set_option maxRecDepth 100000 in
theorem rX9_with {ar : Nat → Nat → Nat} {c0 : Nat → Nat} {sz : Nat} {g : PH} {w w' : HS} {a0 : Int32} {a1 : Int32} {a2 : Int32} {r : Int32} (P : Rel ar c0 sz g w) (hF : FX9_with w a0 a1 a2 = some (r, w')) : GR ar c0 sz r w' (fX9_with g a0 a1 a2) := by
  unfold FX9_with at hF
  unfold fX9_with
  by_cases c1 : a2 = (1 : Int32)
  · replace hF := ite_t c1 hF
    refine GR.t c1 ?_
    obtain ⟨f1, f2⟩ := finW hF
    subst f1
    subst f2
    exact GR.ret P
  replace hF := ite_f c1 hF
  refine GR.f c1 ?_
  obtain ⟨f1, f2⟩ := finW hF
  subst f1
  subst f2
  exact GR.ret P
def FX9_feed_68 (k15 : HS → Nat → Int32 → Int32 → Int32 → Int32 → Int32 → Int32 → Option (Int32 × HS)) (w : HS) (v0 : Nat) (v1 : Int32) (v2 : Int32) (v3 : Int32) (v4 : Int32) (v5 : Int32) (v6 : Int32) (s0 : Int32) : Option (Int32 × HS) :=
  okb (inb ((hi w v0 1) + v6) 200) (bnd (setA w v0 0 ((hi w v0 1) + v6).toNatClampNeg (vp_nar .byte (s0 >>> (((24 : Int32) - ((8 : Int32) * (v6 - v6 / (4 : Int32) * (4 : Int32)))) &&& 31)).toInt8.toInt32)) fun w4 =>
  (k15 w4 v0 v1 v2 v3 v4 v5 (v6 + (1 : Int32))))
set_option maxHeartbeats 4000000 in
set_option maxRecDepth 100000 in
theorem rX9_feed_68 {ar : Nat → Nat → Nat} {c0 : Nat → Nat} {sz : Nat} {r : Int32} {w' : HS} {k15 : HS → Nat → Int32 → Int32 → Int32 → Int32 → Int32 → Int32 → Option (Int32 × HS)} {j15 : PH → Nat → Int32 → Int32 → Int32 → Int32 → Int32 → Int32 → Option (Int32 × PH)} (hk15 : ∀ (g : PH) (w : HS) (v0 : Nat) (v1 : Int32) (v2 : Int32) (v3 : Int32) (v4 : Int32) (v5 : Int32) (v6 : Int32), c0 v0 = 9 → Rel ar c0 sz g w → k15 w v0 v1 v2 v3 v4 v5 v6 = some (r, w') → GR ar c0 sz r w' (j15 g v0 v1 v2 v3 v4 v5 v6)) {g : PH} {w : HS} {v0 : Nat} {v1 : Int32} {v2 : Int32} {v3 : Int32} {v4 : Int32} {v5 : Int32} {v6 : Int32} {s0 : Int32} (h0 : c0 v0 = 9) (P : Rel ar c0 sz g w) (hF : FX9_feed_68 k15 w v0 v1 v2 v3 v4 v5 v6 s0 = some (r, w')) : GR ar c0 sz r w' (fX9_feed_68 j15 g v0 v1 v2 v3 v4 v5 v6 s0) := by
  unfold FX9_feed_68 at hF
  unfold fX9_feed_68
  refine GR.bind (P.getRa (k := 0) h0 (by decide) (by decide) (by decide)) ?_
  refine GR.bind (P.rI (k := 1) h0 (by decide) (by decide) (by decide)) ?_
  replace hF := okb_some hF
  obtain ⟨h1, hF⟩ := hF
  replace hF := bnd_e hF
  obtain ⟨w4, e5, hF⟩ := hF
  obtain ⟨g2, e3, P⟩ := P.sI (k := 0) (kd := 1) (j := ((hi w v0 1) + v6)) h0 (by decide) (by decide) (by decide) (by decide) h1 rfl e5
  refine GR.bind e3 ?_
  exact hk15 _ _ _ _ _ _ _ _ _ h0 P hF
def FX9_feed_15  : Nat → HS → Nat → Int32 → Int32 → Int32 → Int32 → Int32 → Int32 → Option (Int32 × HS)
  | 0, _, _, _, _, _, _, _, _ => none
  | n + 1, w, v0, v1, v2, v3, v4, v5, v6 =>
  if (20 : Int32) ≤ v6 then (bnd (setI w v0 1 ((hi w v0 1) + (20 : Int32))) fun w2 =>
  (some ((hi w2 v0 1), w2))) else
  (if (4 : Int32) ≤ v6 then (if (8 : Int32) ≤ v6 then (if (12 : Int32) ≤ v6 then (if (16 : Int32) ≤ v6 then (FX9_feed_68 (FX9_feed_15 n) w v0 v1 v2 v3 v4 v5 v6 v5) else
  (FX9_feed_68 (FX9_feed_15 n) w v0 v1 v2 v3 v4 v5 v6 v4)) else
  (FX9_feed_68 (FX9_feed_15 n) w v0 v1 v2 v3 v4 v5 v6 v3)) else
  (FX9_feed_68 (FX9_feed_15 n) w v0 v1 v2 v3 v4 v5 v6 v2)) else
  (FX9_feed_68 (FX9_feed_15 n) w v0 v1 v2 v3 v4 v5 v6 v1))
set_option maxHeartbeats 4000000 in
set_option maxRecDepth 100000 in
theorem rX9_feed_15 {ar : Nat → Nat → Nat} {c0 : Nat → Nat} {sz : Nat} {r : Int32} {w' : HS}   : ∀ (n : Nat) (g : PH) (w : HS) (v0 : Nat) (v1 : Int32) (v2 : Int32) (v3 : Int32) (v4 : Int32) (v5 : Int32) (v6 : Int32), c0 v0 = 9 → Rel ar c0 sz g w → FX9_feed_15  n w v0 v1 v2 v3 v4 v5 v6 = some (r, w') → GR ar c0 sz r w' (fX9_feed_15  n g v0 v1 v2 v3 v4 v5 v6) := by
  intro n
  induction n with
  | zero =>
    intro g w v0 v1 v2 v3 v4 v5 v6 h0 P hF
    rw [FX9_feed_15] at hF
    cases hF
  | succ n ih =>
    intro g w v0 v1 v2 v3 v4 v5 v6 h0 P hF
    rw [FX9_feed_15] at hF
    rw [fX9_feed_15]
    by_cases c1 : (20 : Int32) ≤ v6
    · replace hF := ite_t c1 hF
      refine GR.t c1 ?_
      refine GR.bind (P.rI (k := 1) h0 (by decide) (by decide) (by decide)) ?_
      replace hF := bnd_e hF
      obtain ⟨w2, e3, hF⟩ := hF
      obtain ⟨g4, e5, P⟩ := P.putI (k := 1) h0 (by decide) (by decide) (by decide) e3
      refine GR.bind e5 ?_
      refine GR.bind (P.rI (k := 1) h0 (by decide) (by decide) (by decide)) ?_
      obtain ⟨f1, f2⟩ := finW hF
      subst f1
      subst f2
      exact GR.ret P
    replace hF := ite_f c1 hF
    refine GR.f c1 ?_
    by_cases c6 : (4 : Int32) ≤ v6
    · replace hF := ite_t c6 hF
      refine GR.t c6 ?_
      by_cases c7 : (8 : Int32) ≤ v6
      · replace hF := ite_t c7 hF
        refine GR.t c7 ?_
        by_cases c8 : (12 : Int32) ≤ v6
        · replace hF := ite_t c8 hF
          refine GR.t c8 ?_
          by_cases c9 : (16 : Int32) ≤ v6
          · replace hF := ite_t c9 hF
            refine GR.t c9 ?_
            exact rX9_feed_68 ih h0 P hF
          replace hF := ite_f c9 hF
          refine GR.f c9 ?_
          exact rX9_feed_68 ih h0 P hF
        replace hF := ite_f c8 hF
        refine GR.f c8 ?_
        exact rX9_feed_68 ih h0 P hF
      replace hF := ite_f c7 hF
      refine GR.f c7 ?_
      exact rX9_feed_68 ih h0 P hF
    replace hF := ite_f c6 hF
    refine GR.f c6 ?_
    exact rX9_feed_68 ih h0 P hF
def FX9_feed (w : HS) (a0 : Nat) (a1 : Int32) (a2 : Int32) (a3 : Int32) (a4 : Int32) (a5 : Int32) : Option (Int32 × HS) :=
  okb (hc w a0 == 9) (if (hi w a0 1) ≤ (180 : Int32) then (FX9_feed_15 FUEL w a0 a1 a2 a3 a4 a5 (0 : Int32)) else
  (some ((-1 : Int32), w)))
set_option maxHeartbeats 4000000 in
set_option maxRecDepth 100000 in
theorem rX9_feed {ar : Nat → Nat → Nat} {c0 : Nat → Nat} {sz : Nat} {g : PH} {w w' : HS} {a0 : Nat} {a1 : Int32} {a2 : Int32} {a3 : Int32} {a4 : Int32} {a5 : Int32} {r : Int32} (P : Rel ar c0 sz g w) (hF : FX9_feed w a0 a1 a2 a3 a4 a5 = some (r, w')) : GR ar c0 sz r w' (fX9_feed g a0 a1 a2 a3 a4 a5) := by
  unfold FX9_feed at hF
  unfold fX9_feed
  replace hF := okb_some hF
  obtain ⟨h0, hF⟩ := hF
  replace h0 := P.cls h0
  refine GR.ok (P.rO h0 (by decide)) ?_
  refine GR.bind (P.rI (k := 1) h0 (by decide) (by decide) (by decide)) ?_
  by_cases c1 : (hi w a0 1) ≤ (180 : Int32)
  · replace hF := ite_t c1 hF
    refine GR.t c1 ?_
    exact rX9_feed_15  _ _ _ _ _ _ _ _ _ _ h0 P hF
  replace hF := ite_f c1 hF
  refine GR.f c1 ?_
  obtain ⟨f1, f2⟩ := finW hF
  subst f1
  subst f2
  exact GR.ret P
def FX9_end (w : HS) (a0 : Nat) (a1 : Int32) : Option (Int32 × HS) :=
  okb (hc w a0 == 9) ((FX9_isIn w a1.toInt64 (0 : Int64) (hi w a0 1).toInt64).bind fun q1 =>
  (if q1.1 = 0 then (some ((-1 : Int32), q1.2)) else
  (bnd (setI q1.2 a0 1 a1) fun w6 =>
  (some (a1, w6)))))
set_option maxHeartbeats 4000000 in
set_option maxRecDepth 100000 in
theorem rX9_end {ar : Nat → Nat → Nat} {c0 : Nat → Nat} {sz : Nat} {g : PH} {w w' : HS} {a0 : Nat} {a1 : Int32} {r : Int32} (P : Rel ar c0 sz g w) (hF : FX9_end w a0 a1 = some (r, w')) : GR ar c0 sz r w' (fX9_end g a0 a1) := by
  unfold FX9_end at hF
  unfold fX9_end
  replace hF := okb_some hF
  obtain ⟨h0, hF⟩ := hF
  replace h0 := P.cls h0
  refine GR.ok (P.rO h0 (by decide)) ?_
  refine GR.bind (P.rI (k := 1) h0 (by decide) (by decide) (by decide)) ?_
  replace hF := ob_some hF
  obtain ⟨q1, h2, hF⟩ := hF
  obtain ⟨g3, e4, P⟩ := rX9_isIn (r := q1.1) (w' := q1.2) P h2
  refine GR.bind e4 ?_
  by_cases c5 : q1.1 = 0
  · replace hF := ite_t c5 hF
    refine GR.t c5 ?_
    obtain ⟨f1, f2⟩ := finW hF
    subst f1
    subst f2
    exact GR.ret P
  replace hF := ite_f c5 hF
  refine GR.f c5 ?_
  replace hF := bnd_e hF
  obtain ⟨w6, e7, hF⟩ := hF
  obtain ⟨g8, e9, P⟩ := P.putI (k := 1) h0 (by decide) (by decide) (by decide) e7
  refine GR.bind e9 ?_
  obtain ⟨f1, f2⟩ := finW hF
  subst f1
  subst f2
  exact GR.ret P
def FX9_fails (w : HS) (a0 : Nat) (a1 : Int32) (a2 : Int32) : Option (Int32 × HS) :=
  okb (hc w a0 == 9) (bnd (setI w a0 3 (((8 : Int32) * a2) + a1)) fun w1 =>
  (some ((0 : Int32), w1)))
set_option maxHeartbeats 4000000 in
set_option maxRecDepth 100000 in
theorem rX9_fails {ar : Nat → Nat → Nat} {c0 : Nat → Nat} {sz : Nat} {g : PH} {w w' : HS} {a0 : Nat} {a1 : Int32} {a2 : Int32} {r : Int32} (P : Rel ar c0 sz g w) (hF : FX9_fails w a0 a1 a2 = some (r, w')) : GR ar c0 sz r w' (fX9_fails g a0 a1 a2) := by
  unfold FX9_fails at hF
  unfold fX9_fails
  replace hF := okb_some hF
  obtain ⟨h0, hF⟩ := hF
  replace h0 := P.cls h0
  refine GR.ok (P.rO h0 (by decide)) ?_
  replace hF := bnd_e hF
  obtain ⟨w1, e2, hF⟩ := hF
  obtain ⟨g3, e4, P⟩ := P.putI (k := 3) h0 (by decide) (by decide) (by decide) e2
  refine GR.bind e4 ?_
  obtain ⟨f1, f2⟩ := finW hF
  subst f1
  subst f2
  exact GR.ret P
def FX9_byteAt (w : HS) (a0 : Nat) (a1 : Int32) : Option (Int32 × HS) :=
  okb (hc w a0 == 9) (if (hi w a0 1) ≤ a1 then (some ((-1 : Int32), w)) else
  (okb (inb a1 200) (some (((ha w a0 0 a1.toNatClampNeg) &&& (255 : Int32)), w))))
set_option maxHeartbeats 4000000 in
set_option maxRecDepth 100000 in
theorem rX9_byteAt {ar : Nat → Nat → Nat} {c0 : Nat → Nat} {sz : Nat} {g : PH} {w w' : HS} {a0 : Nat} {a1 : Int32} {r : Int32} (P : Rel ar c0 sz g w) (hF : FX9_byteAt w a0 a1 = some (r, w')) : GR ar c0 sz r w' (fX9_byteAt g a0 a1) := by
  unfold FX9_byteAt at hF
  unfold fX9_byteAt
  replace hF := okb_some hF
  obtain ⟨h0, hF⟩ := hF
  replace h0 := P.cls h0
  refine GR.ok (P.rO h0 (by decide)) ?_
  refine GR.bind (P.rI (k := 1) h0 (by decide) (by decide) (by decide)) ?_
  by_cases c1 : (hi w a0 1) ≤ a1
  · replace hF := ite_t c1 hF
    refine GR.t c1 ?_
    obtain ⟨f1, f2⟩ := finW hF
    subst f1
    subst f2
    exact GR.ret P
  replace hF := ite_f c1 hF
  refine GR.f c1 ?_
  refine GR.bind (P.getRa (k := 0) h0 (by decide) (by decide) (by decide)) ?_
  replace hF := okb_some hF
  obtain ⟨h2, hF⟩ := hF
  refine GR.bind (P.dI (k := 0) (n := a1.toNatClampNeg) h0 (by decide) (by decide) (by decide) (by decide) h2 rfl) ?_
  obtain ⟨f1, f2⟩ := finW hF
  subst f1
  subst f2
  exact GR.ret P
def FX9_next_0  : Nat → HS → Nat → Option (Int32 × HS)
  | 0, _, _ => none
  | n + 1, w, v0 =>
  (FX9_byteAt w v0 (hi w v0 2)).bind fun q1 =>
  (if q1.1 = (32 : Int32) then (bnd (setI q1.2 v0 2 ((hi q1.2 v0 2) + (1 : Int32))) fun w6 =>
  (FX9_next_0 n w6 v0)) else
  ((FX9_byteAt q1.2 v0 (hi q1.2 v0 2)).bind fun q10 =>
  (some (q10.1, q10.2))))
set_option maxHeartbeats 4000000 in
set_option maxRecDepth 100000 in
theorem rX9_next_0 {ar : Nat → Nat → Nat} {c0 : Nat → Nat} {sz : Nat} {r : Int32} {w' : HS}   : ∀ (n : Nat) (g : PH) (w : HS) (v0 : Nat), c0 v0 = 9 → Rel ar c0 sz g w → FX9_next_0  n w v0 = some (r, w') → GR ar c0 sz r w' (fX9_next_0  n g v0) := by
  intro n
  induction n with
  | zero =>
    intro g w v0 h0 P hF
    rw [FX9_next_0] at hF
    cases hF
  | succ n ih =>
    intro g w v0 h0 P hF
    rw [FX9_next_0] at hF
    rw [fX9_next_0]
    refine GR.bind (P.rI (k := 2) h0 (by decide) (by decide) (by decide)) ?_
    replace hF := ob_some hF
    obtain ⟨q1, h2, hF⟩ := hF
    obtain ⟨g3, e4, P⟩ := rX9_byteAt (r := q1.1) (w' := q1.2) P h2
    refine GR.bind e4 ?_
    by_cases c5 : q1.1 = (32 : Int32)
    · replace hF := ite_t c5 hF
      refine GR.t c5 ?_
      refine GR.bind (P.rI (k := 2) h0 (by decide) (by decide) (by decide)) ?_
      replace hF := bnd_e hF
      obtain ⟨w6, e7, hF⟩ := hF
      obtain ⟨g8, e9, P⟩ := P.putI (k := 2) h0 (by decide) (by decide) (by decide) e7
      refine GR.bind e9 ?_
      exact ih _ _ _ h0 P hF
    replace hF := ite_f c5 hF
    refine GR.f c5 ?_
    refine GR.bind (P.rI (k := 2) h0 (by decide) (by decide) (by decide)) ?_
    replace hF := ob_some hF
    obtain ⟨q10, h11, hF⟩ := hF
    obtain ⟨g12, e13, P⟩ := rX9_byteAt (r := q10.1) (w' := q10.2) P h11
    refine GR.bind e13 ?_
    obtain ⟨f1, f2⟩ := finW hF
    subst f1
    subst f2
    exact GR.ret P
def FX9_next (w : HS) (a0 : Nat) : Option (Int32 × HS) :=
  okb (hc w a0 == 9) (FX9_next_0 FUEL w a0)
set_option maxHeartbeats 4000000 in
set_option maxRecDepth 100000 in
theorem rX9_next {ar : Nat → Nat → Nat} {c0 : Nat → Nat} {sz : Nat} {g : PH} {w w' : HS} {a0 : Nat} {r : Int32} (P : Rel ar c0 sz g w) (hF : FX9_next w a0 = some (r, w')) : GR ar c0 sz r w' (fX9_next g a0) := by
  unfold FX9_next at hF
  unfold fX9_next
  replace hF := okb_some hF
  obtain ⟨h0, hF⟩ := hF
  replace h0 := P.cls h0
  refine GR.ok (P.rO h0 (by decide)) ?_
  exact rX9_next_0  _ _ _ _ h0 P hF
def FX9_takes (w : HS) (a0 : Nat) (a1 : Int32) : Option (Int32 × HS) :=
  okb (hc w a0 == 9) ((FX9_next w a0).bind fun q1 =>
  (if q1.1 = a1 then (bnd (setI q1.2 a0 2 ((hi q1.2 a0 2) + (1 : Int32))) fun w6 =>
  (some ((1 : Int32), w6))) else
  (some ((0 : Int32), q1.2))))
set_option maxHeartbeats 4000000 in
set_option maxRecDepth 100000 in
theorem rX9_takes {ar : Nat → Nat → Nat} {c0 : Nat → Nat} {sz : Nat} {g : PH} {w w' : HS} {a0 : Nat} {a1 : Int32} {r : Int32} (P : Rel ar c0 sz g w) (hF : FX9_takes w a0 a1 = some (r, w')) : GR ar c0 sz r w' (fX9_takes g a0 a1) := by
  unfold FX9_takes at hF
  unfold fX9_takes
  replace hF := okb_some hF
  obtain ⟨h0, hF⟩ := hF
  replace h0 := P.cls h0
  refine GR.ok (P.rO h0 (by decide)) ?_
  replace hF := ob_some hF
  obtain ⟨q1, h2, hF⟩ := hF
  obtain ⟨g3, e4, P⟩ := rX9_next (r := q1.1) (w' := q1.2) P h2
  refine GR.bind e4 ?_
  by_cases c5 : q1.1 = a1
  · replace hF := ite_t c5 hF
    refine GR.t c5 ?_
    refine GR.bind (P.rI (k := 2) h0 (by decide) (by decide) (by decide)) ?_
    replace hF := bnd_e hF
    obtain ⟨w6, e7, hF⟩ := hF
    obtain ⟨g8, e9, P⟩ := P.putI (k := 2) h0 (by decide) (by decide) (by decide) e7
    refine GR.bind e9 ?_
    obtain ⟨f1, f2⟩ := finW hF
    subst f1
    subst f2
    exact GR.ret P
  replace hF := ite_f c5 hF
  refine GR.f c5 ?_
  obtain ⟨f1, f2⟩ := finW hF
  subst f1
  subst f2
  exact GR.ret P
def FX9_needs (w : HS) (a0 : Nat) (a1 : Int32) : Option (Int32 × HS) :=
  okb (hc w a0 == 9) ((FX9_takes w a0 a1).bind fun q1 =>
  (if q1.1 = 0 then ((FX9_fails q1.2 a0 (1 : Int32) (hi q1.2 a0 2)).bind fun q6 =>
  (if q6.1 = 0 then (some ((0 : Int32), q6.2)) else
  (some ((1 : Int32), q6.2)))) else
  (some ((1 : Int32), q1.2))))
set_option maxHeartbeats 4000000 in
set_option maxRecDepth 100000 in
theorem rX9_needs {ar : Nat → Nat → Nat} {c0 : Nat → Nat} {sz : Nat} {g : PH} {w w' : HS} {a0 : Nat} {a1 : Int32} {r : Int32} (P : Rel ar c0 sz g w) (hF : FX9_needs w a0 a1 = some (r, w')) : GR ar c0 sz r w' (fX9_needs g a0 a1) := by
  unfold FX9_needs at hF
  unfold fX9_needs
  replace hF := okb_some hF
  obtain ⟨h0, hF⟩ := hF
  replace h0 := P.cls h0
  refine GR.ok (P.rO h0 (by decide)) ?_
  replace hF := ob_some hF
  obtain ⟨q1, h2, hF⟩ := hF
  obtain ⟨g3, e4, P⟩ := rX9_takes (r := q1.1) (w' := q1.2) P h2
  refine GR.bind e4 ?_
  by_cases c5 : q1.1 = 0
  · replace hF := ite_t c5 hF
    refine GR.t c5 ?_
    refine GR.bind (P.rI (k := 2) h0 (by decide) (by decide) (by decide)) ?_
    replace hF := ob_some hF
    obtain ⟨q6, h7, hF⟩ := hF
    obtain ⟨g8, e9, P⟩ := rX9_fails (r := q6.1) (w' := q6.2) P h7
    refine GR.bind e9 ?_
    by_cases c10 : q6.1 = 0
    · replace hF := ite_t c10 hF
      refine GR.t c10 ?_
      obtain ⟨f1, f2⟩ := finW hF
      subst f1
      subst f2
      exact GR.ret P
    replace hF := ite_f c10 hF
    refine GR.f c10 ?_
    obtain ⟨f1, f2⟩ := finW hF
    subst f1
    subst f2
    exact GR.ret P
  replace hF := ite_f c5 hF
  refine GR.f c5 ?_
  obtain ⟨f1, f2⟩ := finW hF
  subst f1
  subst f2
  exact GR.ret P
def FX9_readsDigit_27  (w : HS) (v0 : Nat) : Option (Int32 × HS) :=
  (FX9_fails w v0 (1 : Int32) (hi w v0 2)).bind fun q1 =>
  (okb (vp_nar .boolean q1.1 == q1.1) (some (q1.1, q1.2)))
set_option maxHeartbeats 4000000 in
set_option maxRecDepth 100000 in
theorem rX9_readsDigit_27 {ar : Nat → Nat → Nat} {c0 : Nat → Nat} {sz : Nat} {r : Int32} {w' : HS}   {g : PH} {w : HS} {v0 : Nat} (h0 : c0 v0 = 9) (P : Rel ar c0 sz g w) (hF : FX9_readsDigit_27  w v0 = some (r, w')) : GR ar c0 sz r w' (fX9_readsDigit_27  g v0) := by
  unfold FX9_readsDigit_27 at hF
  unfold fX9_readsDigit_27
  refine GR.bind (P.rI (k := 2) h0 (by decide) (by decide) (by decide)) ?_
  replace hF := ob_some hF
  obtain ⟨q1, h2, hF⟩ := hF
  obtain ⟨g3, e4, P⟩ := rX9_fails (r := q1.1) (w' := q1.2) P h2
  refine GR.bind e4 ?_
  replace hF := okb_some hF
  obtain ⟨h5, hF⟩ := hF
  refine GR.ok h5 ?_
  obtain ⟨f1, f2⟩ := finW hF
  subst f1
  subst f2
  exact GR.ret P
def FX9_readsDigit_52  (w : HS) (v0 : Nat) (s0 : Int32) (s1 : Nat) : Option (Int32 × HS) :=
  okb (hc w s1 == 9) (bnd (setI w s1 4 s0) fun w2 =>
  (bnd (setI w2 v0 2 ((hi w2 v0 2) + (1 : Int32))) fun w6 =>
  (some ((1 : Int32), w6))))
set_option maxHeartbeats 4000000 in
set_option maxRecDepth 100000 in
theorem rX9_readsDigit_52 {ar : Nat → Nat → Nat} {c0 : Nat → Nat} {sz : Nat} {r : Int32} {w' : HS}   {g : PH} {w : HS} {v0 : Nat} {s0 : Int32} {s1 : Nat} (h0 : c0 v0 = 9) (P : Rel ar c0 sz g w) (hF : FX9_readsDigit_52  w v0 s0 s1 = some (r, w')) : GR ar c0 sz r w' (fX9_readsDigit_52  g v0 s0 s1) := by
  unfold FX9_readsDigit_52 at hF
  unfold fX9_readsDigit_52
  replace hF := okb_some hF
  obtain ⟨h1, hF⟩ := hF
  replace h1 := P.cls h1
  replace hF := bnd_e hF
  obtain ⟨w2, e3, hF⟩ := hF
  obtain ⟨g4, e5, P⟩ := P.putI (k := 4) h1 (by decide) (by decide) (by decide) e3
  refine GR.bind e5 ?_
  refine GR.bind (P.rI (k := 2) h0 (by decide) (by decide) (by decide)) ?_
  replace hF := bnd_e hF
  obtain ⟨w6, e7, hF⟩ := hF
  obtain ⟨g8, e9, P⟩ := P.putI (k := 2) h0 (by decide) (by decide) (by decide) e7
  refine GR.bind e9 ?_
  obtain ⟨f1, f2⟩ := finW hF
  subst f1
  subst f2
  exact GR.ret P
def FX9_readsDigit_37  (w : HS) (v0 : Nat) (v2 : Int32) : Option (Int32 × HS) :=
  if v2 = (120 : Int32) then (FX9_readsDigit_52 w v0 (2 : Int32) v0) else
  (FX9_readsDigit_52 w v0 (v2 - (48 : Int32)) v0)
set_option maxHeartbeats 4000000 in
set_option maxRecDepth 100000 in
theorem rX9_readsDigit_37 {ar : Nat → Nat → Nat} {c0 : Nat → Nat} {sz : Nat} {r : Int32} {w' : HS}   {g : PH} {w : HS} {v0 : Nat} {v2 : Int32} (h0 : c0 v0 = 9) (P : Rel ar c0 sz g w) (hF : FX9_readsDigit_37  w v0 v2 = some (r, w')) : GR ar c0 sz r w' (fX9_readsDigit_37  g v0 v2) := by
  unfold FX9_readsDigit_37 at hF
  unfold fX9_readsDigit_37
  by_cases c1 : v2 = (120 : Int32)
  · replace hF := ite_t c1 hF
    refine GR.t c1 ?_
    exact rX9_readsDigit_52  h0 P hF
  replace hF := ite_f c1 hF
  refine GR.f c1 ?_
  exact rX9_readsDigit_52  h0 P hF
def FX9_readsDigit (w : HS) (a0 : Nat) (a1 : Int32) : Option (Int32 × HS) :=
  okb (hc w a0 == 9) ((FX9_next w a0).bind fun q1 =>
  (if q1.1 = (48 : Int32) then (FX9_readsDigit_37 q1.2 a0 q1.1) else
  (if q1.1 = (49 : Int32) then (FX9_readsDigit_37 q1.2 a0 q1.1) else
  (if q1.1 = (120 : Int32) then (if a1 = 0 then (FX9_readsDigit_27 q1.2 a0) else
  (FX9_readsDigit_37 q1.2 a0 q1.1)) else
  (FX9_readsDigit_27 q1.2 a0)))))
set_option maxHeartbeats 4000000 in
set_option maxRecDepth 100000 in
theorem rX9_readsDigit {ar : Nat → Nat → Nat} {c0 : Nat → Nat} {sz : Nat} {g : PH} {w w' : HS} {a0 : Nat} {a1 : Int32} {r : Int32} (P : Rel ar c0 sz g w) (hF : FX9_readsDigit w a0 a1 = some (r, w')) : GR ar c0 sz r w' (fX9_readsDigit g a0 a1) := by
  unfold FX9_readsDigit at hF
  unfold fX9_readsDigit
  replace hF := okb_some hF
  obtain ⟨h0, hF⟩ := hF
  replace h0 := P.cls h0
  refine GR.ok (P.rO h0 (by decide)) ?_
  replace hF := ob_some hF
  obtain ⟨q1, h2, hF⟩ := hF
  obtain ⟨g3, e4, P⟩ := rX9_next (r := q1.1) (w' := q1.2) P h2
  refine GR.bind e4 ?_
  by_cases c5 : q1.1 = (48 : Int32)
  · replace hF := ite_t c5 hF
    refine GR.t c5 ?_
    exact rX9_readsDigit_37  h0 P hF
  replace hF := ite_f c5 hF
  refine GR.f c5 ?_
  by_cases c6 : q1.1 = (49 : Int32)
  · replace hF := ite_t c6 hF
    refine GR.t c6 ?_
    exact rX9_readsDigit_37  h0 P hF
  replace hF := ite_f c6 hF
  refine GR.f c6 ?_
  by_cases c7 : q1.1 = (120 : Int32)
  · replace hF := ite_t c7 hF
    refine GR.t c7 ?_
    by_cases c8 : a1 = 0
    · replace hF := ite_t c8 hF
      refine GR.t c8 ?_
      exact rX9_readsDigit_27  h0 P hF
    replace hF := ite_f c8 hF
    refine GR.f c8 ?_
    exact rX9_readsDigit_37  h0 P hF
  replace hF := ite_f c7 hF
  refine GR.f c7 ?_
  exact rX9_readsDigit_27  h0 P hF
def FX9_ruleAt (w : HS) (a0 : Nat) (a1 : Int32) (a2 : Int32) (a3 : Int32) : Option (Int32 × HS) :=
  okb (hc w a0 == 9) (okb (inb ((((20 : Int32) * a1) + ((5 : Int32) * a2)) + a3) 180) (some ((ha w a0 5 ((((20 : Int32) * a1) + ((5 : Int32) * a2)) + a3).toNatClampNeg), w)))
set_option maxHeartbeats 4000000 in
set_option maxRecDepth 100000 in
theorem rX9_ruleAt {ar : Nat → Nat → Nat} {c0 : Nat → Nat} {sz : Nat} {g : PH} {w w' : HS} {a0 : Nat} {a1 : Int32} {a2 : Int32} {a3 : Int32} {r : Int32} (P : Rel ar c0 sz g w) (hF : FX9_ruleAt w a0 a1 a2 a3 = some (r, w')) : GR ar c0 sz r w' (fX9_ruleAt g a0 a1 a2 a3) := by
  unfold FX9_ruleAt at hF
  unfold fX9_ruleAt
  replace hF := okb_some hF
  obtain ⟨h0, hF⟩ := hF
  replace h0 := P.cls h0
  refine GR.ok (P.rO h0 (by decide)) ?_
  refine GR.bind (P.getRa (k := 5) h0 (by decide) (by decide) (by decide)) ?_
  replace hF := okb_some hF
  obtain ⟨h1, hF⟩ := hF
  refine GR.bind (P.dI (k := 5) (n := ((((20 : Int32) * a1) + ((5 : Int32) * a2)) + a3).toNatClampNeg) h0 (by decide) (by decide) (by decide) (by decide) h1 rfl) ?_
  obtain ⟨f1, f2⟩ := finW hF
  subst f1
  subst f2
  exact GR.ret P
def FX9_lays (w : HS) (a0 : Nat) (a1 : Int32) (a2 : Int32) (a3 : Int32) (a4 : Int32) : Option (Unit × HS) :=
  okb (hc w a0 == 9) (okb (inb ((((20 : Int32) * a1) + ((5 : Int32) * a2)) + a3) 180) (bnd (setA w a0 5 ((((20 : Int32) * a1) + ((5 : Int32) * a2)) + a3).toNatClampNeg a4) fun w4 =>
  (some ((), w4))))
set_option maxHeartbeats 4000000 in
set_option maxRecDepth 100000 in
theorem rX9_lays {ar : Nat → Nat → Nat} {c0 : Nat → Nat} {sz : Nat} {g : PH} {w w' : HS} {a0 : Nat} {a1 : Int32} {a2 : Int32} {a3 : Int32} {a4 : Int32} {r : Unit} (P : Rel ar c0 sz g w) (hF : FX9_lays w a0 a1 a2 a3 a4 = some (r, w')) : GR ar c0 sz r w' (fX9_lays g a0 a1 a2 a3 a4) := by
  unfold FX9_lays at hF
  unfold fX9_lays
  replace hF := okb_some hF
  obtain ⟨h0, hF⟩ := hF
  replace h0 := P.cls h0
  refine GR.ok (P.rO h0 (by decide)) ?_
  refine GR.bind (P.getRa (k := 5) h0 (by decide) (by decide) (by decide)) ?_
  replace hF := okb_some hF
  obtain ⟨h1, hF⟩ := hF
  replace hF := bnd_e hF
  obtain ⟨w4, e5, hF⟩ := hF
  obtain ⟨g2, e3, P⟩ := P.sI (k := 5) (kd := 0) (j := ((((20 : Int32) * a1) + ((5 : Int32) * a2)) + a3)) h0 (by decide) (by decide) (by decide) (by decide) h1 rfl e5
  refine GR.bind e3 ?_
  obtain ⟨f1, f2⟩ := finW hF
  subst f1
  subst f2
  exact GR.ret P
def FX9_readsV (w : HS) (a0 : Nat) (a1 : Int32) : Option (Int32 × HS) :=
  okb (hc w a0 == 9) ((FX9_readsDigit w a0 (0 : Int32)).bind fun q1 =>
  (if q1.1 = 0 then (some ((0 : Int32), q1.2)) else
  ((FX9_lays q1.2 a0 (hi q1.2 a0 7) a1 (1 : Int32) (hi q1.2 a0 4)).bind fun q6 =>
  ((FX9_takes q6.2 a0 (119 : Int32)).bind fun q10 =>
  (if q10.1 = 0 then ((FX9_needs q10.2 a0 (114 : Int32)).bind fun q15 =>
  (if q15.1 = 0 then (some ((0 : Int32), q15.2)) else
  ((FX9_needs q15.2 a0 (58 : Int32)).bind fun q20 =>
  (if q20.1 = 0 then (some ((0 : Int32), q20.2)) else
  ((FX9_readsDigit q20.2 a0 (0 : Int32)).bind fun q25 =>
  (if q25.1 = 0 then (some ((0 : Int32), q25.2)) else
  ((FX9_lays q25.2 a0 (hi q25.2 a0 7) a1 (2 : Int32) (2 : Int32)).bind fun q30 =>
  ((FX9_lays q30.2 a0 (hi q30.2 a0 7) a1 (3 : Int32) (hi q30.2 a0 4)).bind fun q34 =>
  ((FX9_needs q34.2 a0 (47 : Int32)).bind fun q38 =>
  (if q38.1 = 0 then (some ((0 : Int32), q38.2)) else
  ((FX9_readsDigit q38.2 a0 (0 : Int32)).bind fun q43 =>
  (if q43.1 = 0 then (some ((0 : Int32), q43.2)) else
  ((FX9_lays q43.2 a0 (hi q43.2 a0 7) a1 (4 : Int32) (hi q43.2 a0 4)).bind fun q48 =>
  (some ((1 : Int32), q48.2))))))))))))))) else
  ((FX9_readsDigit q10.2 a0 (0 : Int32)).bind fun q52 =>
  (if q52.1 = 0 then (some ((0 : Int32), q52.2)) else
  ((FX9_lays q52.2 a0 (hi q52.2 a0 7) a1 (2 : Int32) (hi q52.2 a0 4)).bind fun q57 =>
  ((FX9_needs q57.2 a0 (58 : Int32)).bind fun q61 =>
  (if q61.1 = 0 then (some ((0 : Int32), q61.2)) else
  ((FX9_readsDigit q61.2 a0 (0 : Int32)).bind fun q66 =>
  (if q66.1 = 0 then (some ((0 : Int32), q66.2)) else
  ((FX9_lays q66.2 a0 (hi q66.2 a0 7) a1 (3 : Int32) (hi q66.2 a0 4)).bind fun q71 =>
  (some ((1 : Int32), q71.2)))))))))))))))
set_option maxHeartbeats 4000000 in
set_option maxRecDepth 100000 in
theorem rX9_readsV {ar : Nat → Nat → Nat} {c0 : Nat → Nat} {sz : Nat} {g : PH} {w w' : HS} {a0 : Nat} {a1 : Int32} {r : Int32} (P : Rel ar c0 sz g w) (hF : FX9_readsV w a0 a1 = some (r, w')) : GR ar c0 sz r w' (fX9_readsV g a0 a1) := by
  unfold FX9_readsV at hF
  unfold fX9_readsV
  replace hF := okb_some hF
  obtain ⟨h0, hF⟩ := hF
  replace h0 := P.cls h0
  refine GR.ok (P.rO h0 (by decide)) ?_
  replace hF := ob_some hF
  obtain ⟨q1, h2, hF⟩ := hF
  obtain ⟨g3, e4, P⟩ := rX9_readsDigit (r := q1.1) (w' := q1.2) P h2
  refine GR.bind e4 ?_
  by_cases c5 : q1.1 = 0
  · replace hF := ite_t c5 hF
    refine GR.t c5 ?_
    obtain ⟨f1, f2⟩ := finW hF
    subst f1
    subst f2
    exact GR.ret P
  replace hF := ite_f c5 hF
  refine GR.f c5 ?_
  refine GR.bind (P.rI (k := 7) h0 (by decide) (by decide) (by decide)) ?_
  refine GR.bind (P.rI (k := 4) h0 (by decide) (by decide) (by decide)) ?_
  replace hF := ob_some hF
  obtain ⟨q6, h7, hF⟩ := hF
  obtain ⟨g8, e9, P⟩ := rX9_lays (r := q6.1) (w' := q6.2) P h7
  refine GR.bind e9 ?_
  replace hF := ob_some hF
  obtain ⟨q10, h11, hF⟩ := hF
  obtain ⟨g12, e13, P⟩ := rX9_takes (r := q10.1) (w' := q10.2) P h11
  refine GR.bind e13 ?_
  by_cases c14 : q10.1 = 0
  · replace hF := ite_t c14 hF
    refine GR.t c14 ?_
    replace hF := ob_some hF
    obtain ⟨q15, h16, hF⟩ := hF
    obtain ⟨g17, e18, P⟩ := rX9_needs (r := q15.1) (w' := q15.2) P h16
    refine GR.bind e18 ?_
    by_cases c19 : q15.1 = 0
    · replace hF := ite_t c19 hF
      refine GR.t c19 ?_
      obtain ⟨f1, f2⟩ := finW hF
      subst f1
      subst f2
      exact GR.ret P
    replace hF := ite_f c19 hF
    refine GR.f c19 ?_
    replace hF := ob_some hF
    obtain ⟨q20, h21, hF⟩ := hF
    obtain ⟨g22, e23, P⟩ := rX9_needs (r := q20.1) (w' := q20.2) P h21
    refine GR.bind e23 ?_
    by_cases c24 : q20.1 = 0
    · replace hF := ite_t c24 hF
      refine GR.t c24 ?_
      obtain ⟨f1, f2⟩ := finW hF
      subst f1
      subst f2
      exact GR.ret P
    replace hF := ite_f c24 hF
    refine GR.f c24 ?_
    replace hF := ob_some hF
    obtain ⟨q25, h26, hF⟩ := hF
    obtain ⟨g27, e28, P⟩ := rX9_readsDigit (r := q25.1) (w' := q25.2) P h26
    refine GR.bind e28 ?_
    by_cases c29 : q25.1 = 0
    · replace hF := ite_t c29 hF
      refine GR.t c29 ?_
      obtain ⟨f1, f2⟩ := finW hF
      subst f1
      subst f2
      exact GR.ret P
    replace hF := ite_f c29 hF
    refine GR.f c29 ?_
    refine GR.bind (P.rI (k := 7) h0 (by decide) (by decide) (by decide)) ?_
    replace hF := ob_some hF
    obtain ⟨q30, h31, hF⟩ := hF
    obtain ⟨g32, e33, P⟩ := rX9_lays (r := q30.1) (w' := q30.2) P h31
    refine GR.bind e33 ?_
    refine GR.bind (P.rI (k := 7) h0 (by decide) (by decide) (by decide)) ?_
    refine GR.bind (P.rI (k := 4) h0 (by decide) (by decide) (by decide)) ?_
    replace hF := ob_some hF
    obtain ⟨q34, h35, hF⟩ := hF
    obtain ⟨g36, e37, P⟩ := rX9_lays (r := q34.1) (w' := q34.2) P h35
    refine GR.bind e37 ?_
    replace hF := ob_some hF
    obtain ⟨q38, h39, hF⟩ := hF
    obtain ⟨g40, e41, P⟩ := rX9_needs (r := q38.1) (w' := q38.2) P h39
    refine GR.bind e41 ?_
    by_cases c42 : q38.1 = 0
    · replace hF := ite_t c42 hF
      refine GR.t c42 ?_
      obtain ⟨f1, f2⟩ := finW hF
      subst f1
      subst f2
      exact GR.ret P
    replace hF := ite_f c42 hF
    refine GR.f c42 ?_
    replace hF := ob_some hF
    obtain ⟨q43, h44, hF⟩ := hF
    obtain ⟨g45, e46, P⟩ := rX9_readsDigit (r := q43.1) (w' := q43.2) P h44
    refine GR.bind e46 ?_
    by_cases c47 : q43.1 = 0
    · replace hF := ite_t c47 hF
      refine GR.t c47 ?_
      obtain ⟨f1, f2⟩ := finW hF
      subst f1
      subst f2
      exact GR.ret P
    replace hF := ite_f c47 hF
    refine GR.f c47 ?_
    refine GR.bind (P.rI (k := 7) h0 (by decide) (by decide) (by decide)) ?_
    refine GR.bind (P.rI (k := 4) h0 (by decide) (by decide) (by decide)) ?_
    replace hF := ob_some hF
    obtain ⟨q48, h49, hF⟩ := hF
    obtain ⟨g50, e51, P⟩ := rX9_lays (r := q48.1) (w' := q48.2) P h49
    refine GR.bind e51 ?_
    obtain ⟨f1, f2⟩ := finW hF
    subst f1
    subst f2
    exact GR.ret P
  replace hF := ite_f c14 hF
  refine GR.f c14 ?_
  replace hF := ob_some hF
  obtain ⟨q52, h53, hF⟩ := hF
  obtain ⟨g54, e55, P⟩ := rX9_readsDigit (r := q52.1) (w' := q52.2) P h53
  refine GR.bind e55 ?_
  by_cases c56 : q52.1 = 0
  · replace hF := ite_t c56 hF
    refine GR.t c56 ?_
    obtain ⟨f1, f2⟩ := finW hF
    subst f1
    subst f2
    exact GR.ret P
  replace hF := ite_f c56 hF
  refine GR.f c56 ?_
  refine GR.bind (P.rI (k := 7) h0 (by decide) (by decide) (by decide)) ?_
  refine GR.bind (P.rI (k := 4) h0 (by decide) (by decide) (by decide)) ?_
  replace hF := ob_some hF
  obtain ⟨q57, h58, hF⟩ := hF
  obtain ⟨g59, e60, P⟩ := rX9_lays (r := q57.1) (w' := q57.2) P h58
  refine GR.bind e60 ?_
  replace hF := ob_some hF
  obtain ⟨q61, h62, hF⟩ := hF
  obtain ⟨g63, e64, P⟩ := rX9_needs (r := q61.1) (w' := q61.2) P h62
  refine GR.bind e64 ?_
  by_cases c65 : q61.1 = 0
  · replace hF := ite_t c65 hF
    refine GR.t c65 ?_
    obtain ⟨f1, f2⟩ := finW hF
    subst f1
    subst f2
    exact GR.ret P
  replace hF := ite_f c65 hF
  refine GR.f c65 ?_
  replace hF := ob_some hF
  obtain ⟨q66, h67, hF⟩ := hF
  obtain ⟨g68, e69, P⟩ := rX9_readsDigit (r := q66.1) (w' := q66.2) P h67
  refine GR.bind e69 ?_
  by_cases c70 : q66.1 = 0
  · replace hF := ite_t c70 hF
    refine GR.t c70 ?_
    obtain ⟨f1, f2⟩ := finW hF
    subst f1
    subst f2
    exact GR.ret P
  replace hF := ite_f c70 hF
  refine GR.f c70 ?_
  refine GR.bind (P.rI (k := 7) h0 (by decide) (by decide) (by decide)) ?_
  refine GR.bind (P.rI (k := 4) h0 (by decide) (by decide) (by decide)) ?_
  replace hF := ob_some hF
  obtain ⟨q71, h72, hF⟩ := hF
  obtain ⟨g73, e74, P⟩ := rX9_lays (r := q71.1) (w' := q71.2) P h72
  refine GR.bind e74 ?_
  obtain ⟨f1, f2⟩ := finW hF
  subst f1
  subst f2
  exact GR.ret P
def FX9_readsA_64  (w : HS) (v0 : Nat) (v1 : Int32) (v2 : Int32) : Option (Int32 × HS) :=
  (FX9_lays w v0 (hi w v0 7) v1 (2 : Int32) v2).bind fun q1 =>
  ((FX9_needs q1.2 v0 (58 : Int32)).bind fun q5 =>
  (if q5.1 = 0 then (some ((0 : Int32), q5.2)) else
  ((FX9_readsDigit q5.2 v0 (1 : Int32)).bind fun q10 =>
  (if q10.1 = 0 then (some ((0 : Int32), q10.2)) else
  ((FX9_lays q10.2 v0 (hi q10.2 v0 7) v1 (3 : Int32) (hi q10.2 v0 4)).bind fun q15 =>
  (some ((1 : Int32), q15.2)))))))
set_option maxHeartbeats 4000000 in
set_option maxRecDepth 100000 in
theorem rX9_readsA_64 {ar : Nat → Nat → Nat} {c0 : Nat → Nat} {sz : Nat} {r : Int32} {w' : HS}   {g : PH} {w : HS} {v0 : Nat} {v1 : Int32} {v2 : Int32} (h0 : c0 v0 = 9) (P : Rel ar c0 sz g w) (hF : FX9_readsA_64  w v0 v1 v2 = some (r, w')) : GR ar c0 sz r w' (fX9_readsA_64  g v0 v1 v2) := by
  unfold FX9_readsA_64 at hF
  unfold fX9_readsA_64
  refine GR.bind (P.rI (k := 7) h0 (by decide) (by decide) (by decide)) ?_
  replace hF := ob_some hF
  obtain ⟨q1, h2, hF⟩ := hF
  obtain ⟨g3, e4, P⟩ := rX9_lays (r := q1.1) (w' := q1.2) P h2
  refine GR.bind e4 ?_
  replace hF := ob_some hF
  obtain ⟨q5, h6, hF⟩ := hF
  obtain ⟨g7, e8, P⟩ := rX9_needs (r := q5.1) (w' := q5.2) P h6
  refine GR.bind e8 ?_
  by_cases c9 : q5.1 = 0
  · replace hF := ite_t c9 hF
    refine GR.t c9 ?_
    obtain ⟨f1, f2⟩ := finW hF
    subst f1
    subst f2
    exact GR.ret P
  replace hF := ite_f c9 hF
  refine GR.f c9 ?_
  replace hF := ob_some hF
  obtain ⟨q10, h11, hF⟩ := hF
  obtain ⟨g12, e13, P⟩ := rX9_readsDigit (r := q10.1) (w' := q10.2) P h11
  refine GR.bind e13 ?_
  by_cases c14 : q10.1 = 0
  · replace hF := ite_t c14 hF
    refine GR.t c14 ?_
    obtain ⟨f1, f2⟩ := finW hF
    subst f1
    subst f2
    exact GR.ret P
  replace hF := ite_f c14 hF
  refine GR.f c14 ?_
  refine GR.bind (P.rI (k := 7) h0 (by decide) (by decide) (by decide)) ?_
  refine GR.bind (P.rI (k := 4) h0 (by decide) (by decide) (by decide)) ?_
  replace hF := ob_some hF
  obtain ⟨q15, h16, hF⟩ := hF
  obtain ⟨g17, e18, P⟩ := rX9_lays (r := q15.1) (w' := q15.2) P h16
  refine GR.bind e18 ?_
  obtain ⟨f1, f2⟩ := finW hF
  subst f1
  subst f2
  exact GR.ret P
def FX9_readsA (w : HS) (a0 : Nat) (a1 : Int32) : Option (Int32 × HS) :=
  okb (hc w a0 == 9) ((FX9_readsDigit w a0 (0 : Int32)).bind fun q1 =>
  (if q1.1 = 0 then (some ((0 : Int32), q1.2)) else
  ((FX9_lays q1.2 a0 (hi q1.2 a0 7) a1 (1 : Int32) (hi q1.2 a0 4)).bind fun q6 =>
  ((FX9_takes q6.2 a0 (119 : Int32)).bind fun q10 =>
  (if q10.1 = 0 then ((FX9_needs q10.2 a0 (114 : Int32)).bind fun q15 =>
  (if q15.1 = 0 then (some ((0 : Int32), q15.2)) else
  (FX9_readsA_64 q15.2 a0 a1 (2 : Int32)))) else
  ((FX9_readsDigit q10.2 a0 (0 : Int32)).bind fun q20 =>
  (if q20.1 = 0 then (some ((0 : Int32), q20.2)) else
  (FX9_readsA_64 q20.2 a0 a1 (hi q20.2 a0 4)))))))))
set_option maxHeartbeats 4000000 in
set_option maxRecDepth 100000 in
theorem rX9_readsA {ar : Nat → Nat → Nat} {c0 : Nat → Nat} {sz : Nat} {g : PH} {w w' : HS} {a0 : Nat} {a1 : Int32} {r : Int32} (P : Rel ar c0 sz g w) (hF : FX9_readsA w a0 a1 = some (r, w')) : GR ar c0 sz r w' (fX9_readsA g a0 a1) := by
  unfold FX9_readsA at hF
  unfold fX9_readsA
  replace hF := okb_some hF
  obtain ⟨h0, hF⟩ := hF
  replace h0 := P.cls h0
  refine GR.ok (P.rO h0 (by decide)) ?_
  replace hF := ob_some hF
  obtain ⟨q1, h2, hF⟩ := hF
  obtain ⟨g3, e4, P⟩ := rX9_readsDigit (r := q1.1) (w' := q1.2) P h2
  refine GR.bind e4 ?_
  by_cases c5 : q1.1 = 0
  · replace hF := ite_t c5 hF
    refine GR.t c5 ?_
    obtain ⟨f1, f2⟩ := finW hF
    subst f1
    subst f2
    exact GR.ret P
  replace hF := ite_f c5 hF
  refine GR.f c5 ?_
  refine GR.bind (P.rI (k := 7) h0 (by decide) (by decide) (by decide)) ?_
  refine GR.bind (P.rI (k := 4) h0 (by decide) (by decide) (by decide)) ?_
  replace hF := ob_some hF
  obtain ⟨q6, h7, hF⟩ := hF
  obtain ⟨g8, e9, P⟩ := rX9_lays (r := q6.1) (w' := q6.2) P h7
  refine GR.bind e9 ?_
  replace hF := ob_some hF
  obtain ⟨q10, h11, hF⟩ := hF
  obtain ⟨g12, e13, P⟩ := rX9_takes (r := q10.1) (w' := q10.2) P h11
  refine GR.bind e13 ?_
  by_cases c14 : q10.1 = 0
  · replace hF := ite_t c14 hF
    refine GR.t c14 ?_
    replace hF := ob_some hF
    obtain ⟨q15, h16, hF⟩ := hF
    obtain ⟨g17, e18, P⟩ := rX9_needs (r := q15.1) (w' := q15.2) P h16
    refine GR.bind e18 ?_
    by_cases c19 : q15.1 = 0
    · replace hF := ite_t c19 hF
      refine GR.t c19 ?_
      obtain ⟨f1, f2⟩ := finW hF
      subst f1
      subst f2
      exact GR.ret P
    replace hF := ite_f c19 hF
    refine GR.f c19 ?_
    exact rX9_readsA_64  h0 P hF
  replace hF := ite_f c14 hF
  refine GR.f c14 ?_
  replace hF := ob_some hF
  obtain ⟨q20, h21, hF⟩ := hF
  obtain ⟨g22, e23, P⟩ := rX9_readsDigit (r := q20.1) (w' := q20.2) P h21
  refine GR.bind e23 ?_
  by_cases c24 : q20.1 = 0
  · replace hF := ite_t c24 hF
    refine GR.t c24 ?_
    obtain ⟨f1, f2⟩ := finW hF
    subst f1
    subst f2
    exact GR.ret P
  replace hF := ite_f c24 hF
  refine GR.f c24 ?_
  refine GR.bind (P.rI (k := 4) h0 (by decide) (by decide) (by decide)) ?_
  exact rX9_readsA_64  h0 P hF
def FX9_readsRest_85  (w : HS) (v0 : Nat) (v2 : Int32) : Option (Int32 × HS) :=
  (FX9_needs w v0 (58 : Int32)).bind fun q1 =>
  (if q1.1 = 0 then (some ((0 : Int32), q1.2)) else
  ((FX9_readsDigit q1.2 v0 (0 : Int32)).bind fun q6 =>
  (if q6.1 = 0 then (some ((0 : Int32), q6.2)) else
  ((FX9_lays q6.2 v0 (hi q6.2 v0 7) v2 (3 : Int32) (hi q6.2 v0 4)).bind fun q11 =>
  (some ((1 : Int32), q11.2))))))
set_option maxHeartbeats 4000000 in
set_option maxRecDepth 100000 in
theorem rX9_readsRest_85 {ar : Nat → Nat → Nat} {c0 : Nat → Nat} {sz : Nat} {r : Int32} {w' : HS}   {g : PH} {w : HS} {v0 : Nat} {v2 : Int32} (h0 : c0 v0 = 9) (P : Rel ar c0 sz g w) (hF : FX9_readsRest_85  w v0 v2 = some (r, w')) : GR ar c0 sz r w' (fX9_readsRest_85  g v0 v2) := by
  unfold FX9_readsRest_85 at hF
  unfold fX9_readsRest_85
  replace hF := ob_some hF
  obtain ⟨q1, h2, hF⟩ := hF
  obtain ⟨g3, e4, P⟩ := rX9_needs (r := q1.1) (w' := q1.2) P h2
  refine GR.bind e4 ?_
  by_cases c5 : q1.1 = 0
  · replace hF := ite_t c5 hF
    refine GR.t c5 ?_
    obtain ⟨f1, f2⟩ := finW hF
    subst f1
    subst f2
    exact GR.ret P
  replace hF := ite_f c5 hF
  refine GR.f c5 ?_
  replace hF := ob_some hF
  obtain ⟨q6, h7, hF⟩ := hF
  obtain ⟨g8, e9, P⟩ := rX9_readsDigit (r := q6.1) (w' := q6.2) P h7
  refine GR.bind e9 ?_
  by_cases c10 : q6.1 = 0
  · replace hF := ite_t c10 hF
    refine GR.t c10 ?_
    obtain ⟨f1, f2⟩ := finW hF
    subst f1
    subst f2
    exact GR.ret P
  replace hF := ite_f c10 hF
  refine GR.f c10 ?_
  refine GR.bind (P.rI (k := 7) h0 (by decide) (by decide) (by decide)) ?_
  refine GR.bind (P.rI (k := 4) h0 (by decide) (by decide) (by decide)) ?_
  replace hF := ob_some hF
  obtain ⟨q11, h12, hF⟩ := hF
  obtain ⟨g13, e14, P⟩ := rX9_lays (r := q11.1) (w' := q11.2) P h12
  refine GR.bind e14 ?_
  obtain ⟨f1, f2⟩ := finW hF
  subst f1
  subst f2
  exact GR.ret P
def FX9_readsRest (w : HS) (a0 : Nat) (a1 : Int32) (a2 : Int32) : Option (Int32 × HS) :=
  okb (hc w a0 == 9) (if a1 = 97 then ((FX9_readsA w a0 a2).bind fun q2 =>
  (okb (vp_nar .boolean q2.1 == q2.1) (some (q2.1, q2.2)))) else
  (if a1 = 109 then (some ((1 : Int32), w)) else
  (if a1 = 115 then ((FX9_readsDigit w a0 (0 : Int32)).bind fun q9 =>
  (if q9.1 = 0 then (some ((0 : Int32), q9.2)) else
  ((FX9_lays q9.2 a0 (hi q9.2 a0 7) a2 (1 : Int32) (hi q9.2 a0 4)).bind fun q14 =>
  (FX9_readsRest_85 q14.2 a0 a2)))) else
  (if a1 = 118 then ((FX9_readsV w a0 a2).bind fun q19 =>
  (okb (vp_nar .boolean q19.1 == q19.1) (some (q19.1, q19.2)))) else
  (FX9_readsRest_85 w a0 a2)))))
set_option maxHeartbeats 4000000 in
set_option maxRecDepth 100000 in
theorem rX9_readsRest {ar : Nat → Nat → Nat} {c0 : Nat → Nat} {sz : Nat} {g : PH} {w w' : HS} {a0 : Nat} {a1 : Int32} {a2 : Int32} {r : Int32} (P : Rel ar c0 sz g w) (hF : FX9_readsRest w a0 a1 a2 = some (r, w')) : GR ar c0 sz r w' (fX9_readsRest g a0 a1 a2) := by
  unfold FX9_readsRest at hF
  unfold fX9_readsRest
  replace hF := okb_some hF
  obtain ⟨h0, hF⟩ := hF
  replace h0 := P.cls h0
  refine GR.ok (P.rO h0 (by decide)) ?_
  by_cases c1 : a1 = 97
  · replace hF := ite_t c1 hF
    refine GR.t c1 ?_
    replace hF := ob_some hF
    obtain ⟨q2, h3, hF⟩ := hF
    obtain ⟨g4, e5, P⟩ := rX9_readsA (r := q2.1) (w' := q2.2) P h3
    refine GR.bind e5 ?_
    replace hF := okb_some hF
    obtain ⟨h6, hF⟩ := hF
    refine GR.ok h6 ?_
    obtain ⟨f1, f2⟩ := finW hF
    subst f1
    subst f2
    exact GR.ret P
  replace hF := ite_f c1 hF
  refine GR.f c1 ?_
  by_cases c7 : a1 = 109
  · replace hF := ite_t c7 hF
    refine GR.t c7 ?_
    obtain ⟨f1, f2⟩ := finW hF
    subst f1
    subst f2
    exact GR.ret P
  replace hF := ite_f c7 hF
  refine GR.f c7 ?_
  by_cases c8 : a1 = 115
  · replace hF := ite_t c8 hF
    refine GR.t c8 ?_
    replace hF := ob_some hF
    obtain ⟨q9, h10, hF⟩ := hF
    obtain ⟨g11, e12, P⟩ := rX9_readsDigit (r := q9.1) (w' := q9.2) P h10
    refine GR.bind e12 ?_
    by_cases c13 : q9.1 = 0
    · replace hF := ite_t c13 hF
      refine GR.t c13 ?_
      obtain ⟨f1, f2⟩ := finW hF
      subst f1
      subst f2
      exact GR.ret P
    replace hF := ite_f c13 hF
    refine GR.f c13 ?_
    refine GR.bind (P.rI (k := 7) h0 (by decide) (by decide) (by decide)) ?_
    refine GR.bind (P.rI (k := 4) h0 (by decide) (by decide) (by decide)) ?_
    replace hF := ob_some hF
    obtain ⟨q14, h15, hF⟩ := hF
    obtain ⟨g16, e17, P⟩ := rX9_lays (r := q14.1) (w' := q14.2) P h15
    refine GR.bind e17 ?_
    exact rX9_readsRest_85  h0 P hF
  replace hF := ite_f c8 hF
  refine GR.f c8 ?_
  by_cases c18 : a1 = 118
  · replace hF := ite_t c18 hF
    refine GR.t c18 ?_
    replace hF := ob_some hF
    obtain ⟨q19, h20, hF⟩ := hF
    obtain ⟨g21, e22, P⟩ := rX9_readsV (r := q19.1) (w' := q19.2) P h20
    refine GR.bind e22 ?_
    replace hF := okb_some hF
    obtain ⟨h23, hF⟩ := hF
    refine GR.ok h23 ?_
    obtain ⟨f1, f2⟩ := finW hF
    subst f1
    subst f2
    exact GR.ret P
  replace hF := ite_f c18 hF
  refine GR.f c18 ?_
  exact rX9_readsRest_85  h0 P hF
def FX9_isAlone (w : HS) (a0 : Int32) : Option (Int32 × HS) :=
  if a0 = (110 : Int32) then (some ((1 : Int32), w)) else
  (if a0 = (109 : Int32) then (some ((1 : Int32), w)) else
  (if a0 = (98 : Int32) then (some ((1 : Int32), w)) else
  (some ((0 : Int32), w))))
set_option maxHeartbeats 4000000 in
set_option maxRecDepth 100000 in
theorem rX9_isAlone {ar : Nat → Nat → Nat} {c0 : Nat → Nat} {sz : Nat} {g : PH} {w w' : HS} {a0 : Int32} {r : Int32} (P : Rel ar c0 sz g w) (hF : FX9_isAlone w a0 = some (r, w')) : GR ar c0 sz r w' (fX9_isAlone g a0) := by
  unfold FX9_isAlone at hF
  unfold fX9_isAlone
  by_cases c1 : a0 = (110 : Int32)
  · replace hF := ite_t c1 hF
    refine GR.t c1 ?_
    obtain ⟨f1, f2⟩ := finW hF
    subst f1
    subst f2
    exact GR.ret P
  replace hF := ite_f c1 hF
  refine GR.f c1 ?_
  by_cases c2 : a0 = (109 : Int32)
  · replace hF := ite_t c2 hF
    refine GR.t c2 ?_
    obtain ⟨f1, f2⟩ := finW hF
    subst f1
    subst f2
    exact GR.ret P
  replace hF := ite_f c2 hF
  refine GR.f c2 ?_
  by_cases c3 : a0 = (98 : Int32)
  · replace hF := ite_t c3 hF
    refine GR.t c3 ?_
    obtain ⟨f1, f2⟩ := finW hF
    subst f1
    subst f2
    exact GR.ret P
  replace hF := ite_f c3 hF
  refine GR.f c3 ?_
  obtain ⟨f1, f2⟩ := finW hF
  subst f1
  subst f2
  exact GR.ret P
def FX9_readsRule_98  (w : HS) (v0 : Nat) : Option (Int32 × HS) :=
  (FX9_fails w v0 (3 : Int32) (hi w v0 2)).bind fun q1 =>
  (okb (vp_nar .boolean q1.1 == q1.1) (some (q1.1, q1.2)))
set_option maxHeartbeats 4000000 in
set_option maxRecDepth 100000 in
theorem rX9_readsRule_98 {ar : Nat → Nat → Nat} {c0 : Nat → Nat} {sz : Nat} {r : Int32} {w' : HS}   {g : PH} {w : HS} {v0 : Nat} (h0 : c0 v0 = 9) (P : Rel ar c0 sz g w) (hF : FX9_readsRule_98  w v0 = some (r, w')) : GR ar c0 sz r w' (fX9_readsRule_98  g v0) := by
  unfold FX9_readsRule_98 at hF
  unfold fX9_readsRule_98
  refine GR.bind (P.rI (k := 2) h0 (by decide) (by decide) (by decide)) ?_
  replace hF := ob_some hF
  obtain ⟨q1, h2, hF⟩ := hF
  obtain ⟨g3, e4, P⟩ := rX9_fails (r := q1.1) (w' := q1.2) P h2
  refine GR.bind e4 ?_
  replace hF := okb_some hF
  obtain ⟨h5, hF⟩ := hF
  refine GR.ok h5 ?_
  obtain ⟨f1, f2⟩ := finW hF
  subst f1
  subst f2
  exact GR.ret P
def FX9_readsRule_108  (w : HS) (v0 : Nat) (v1 : Int32) (v2 : Int32) : Option (Int32 × HS) :=
  bnd (setI w v0 2 ((hi w v0 2) + (1 : Int32))) fun w1 =>
  ((FX9_lays w1 v0 (hi w1 v0 7) v1 (0 : Int32) v2).bind fun q5 =>
  ((FX9_readsRest q5.2 v0 v2 v1).bind fun q9 =>
  (okb (vp_nar .boolean q9.1 == q9.1) (some (q9.1, q9.2)))))
set_option maxHeartbeats 4000000 in
set_option maxRecDepth 100000 in
theorem rX9_readsRule_108 {ar : Nat → Nat → Nat} {c0 : Nat → Nat} {sz : Nat} {r : Int32} {w' : HS}   {g : PH} {w : HS} {v0 : Nat} {v1 : Int32} {v2 : Int32} (h0 : c0 v0 = 9) (P : Rel ar c0 sz g w) (hF : FX9_readsRule_108  w v0 v1 v2 = some (r, w')) : GR ar c0 sz r w' (fX9_readsRule_108  g v0 v1 v2) := by
  unfold FX9_readsRule_108 at hF
  unfold fX9_readsRule_108
  refine GR.bind (P.rI (k := 2) h0 (by decide) (by decide) (by decide)) ?_
  replace hF := bnd_e hF
  obtain ⟨w1, e2, hF⟩ := hF
  obtain ⟨g3, e4, P⟩ := P.putI (k := 2) h0 (by decide) (by decide) (by decide) e2
  refine GR.bind e4 ?_
  refine GR.bind (P.rI (k := 7) h0 (by decide) (by decide) (by decide)) ?_
  replace hF := ob_some hF
  obtain ⟨q5, h6, hF⟩ := hF
  obtain ⟨g7, e8, P⟩ := rX9_lays (r := q5.1) (w' := q5.2) P h6
  refine GR.bind e8 ?_
  replace hF := ob_some hF
  obtain ⟨q9, h10, hF⟩ := hF
  obtain ⟨g11, e12, P⟩ := rX9_readsRest (r := q9.1) (w' := q9.2) P h10
  refine GR.bind e12 ?_
  replace hF := okb_some hF
  obtain ⟨h13, hF⟩ := hF
  refine GR.ok h13 ?_
  obtain ⟨f1, f2⟩ := finW hF
  subst f1
  subst f2
  exact GR.ret P
def FX9_readsRule_41  (w : HS) (v0 : Nat) (v1 : Int32) (v2 : Int32) (s0 : Int32) : Option (Int32 × HS) :=
  if s0 = 0 then ((FX9_fails w v0 (1 : Int32) (hi w v0 2)).bind fun q2 =>
  (okb (vp_nar .boolean q2.1 == q2.1) (some (q2.1, q2.2)))) else
  (if v1 = (4 : Int32) then ((FX9_fails w v0 (2 : Int32) (hi w v0 2)).bind fun q8 =>
  (okb (vp_nar .boolean q8.1 == q8.1) (some (q8.1, q8.2)))) else
  (if v1 ≤ 0 then (FX9_readsRule_108 w v0 v1 v2) else
  ((FX9_isAlone w v2).bind fun q14 =>
  (if q14.1 = 0 then ((FX9_ruleAt q14.2 v0 (hi q14.2 v0 7) (0 : Int32) (0 : Int32)).bind fun q19 =>
  ((FX9_isAlone q19.2 q19.1).bind fun q23 =>
  (if q23.1 = 0 then (FX9_readsRule_108 q23.2 v0 v1 v2) else
  (FX9_readsRule_98 q23.2 v0)))) else
  (FX9_readsRule_98 q14.2 v0)))))
set_option maxHeartbeats 4000000 in
set_option maxRecDepth 100000 in
theorem rX9_readsRule_41 {ar : Nat → Nat → Nat} {c0 : Nat → Nat} {sz : Nat} {r : Int32} {w' : HS}   {g : PH} {w : HS} {v0 : Nat} {v1 : Int32} {v2 : Int32} {s0 : Int32} (h0 : c0 v0 = 9) (P : Rel ar c0 sz g w) (hF : FX9_readsRule_41  w v0 v1 v2 s0 = some (r, w')) : GR ar c0 sz r w' (fX9_readsRule_41  g v0 v1 v2 s0) := by
  unfold FX9_readsRule_41 at hF
  unfold fX9_readsRule_41
  by_cases c1 : s0 = 0
  · replace hF := ite_t c1 hF
    refine GR.t c1 ?_
    refine GR.bind (P.rI (k := 2) h0 (by decide) (by decide) (by decide)) ?_
    replace hF := ob_some hF
    obtain ⟨q2, h3, hF⟩ := hF
    obtain ⟨g4, e5, P⟩ := rX9_fails (r := q2.1) (w' := q2.2) P h3
    refine GR.bind e5 ?_
    replace hF := okb_some hF
    obtain ⟨h6, hF⟩ := hF
    refine GR.ok h6 ?_
    obtain ⟨f1, f2⟩ := finW hF
    subst f1
    subst f2
    exact GR.ret P
  replace hF := ite_f c1 hF
  refine GR.f c1 ?_
  by_cases c7 : v1 = (4 : Int32)
  · replace hF := ite_t c7 hF
    refine GR.t c7 ?_
    refine GR.bind (P.rI (k := 2) h0 (by decide) (by decide) (by decide)) ?_
    replace hF := ob_some hF
    obtain ⟨q8, h9, hF⟩ := hF
    obtain ⟨g10, e11, P⟩ := rX9_fails (r := q8.1) (w' := q8.2) P h9
    refine GR.bind e11 ?_
    replace hF := okb_some hF
    obtain ⟨h12, hF⟩ := hF
    refine GR.ok h12 ?_
    obtain ⟨f1, f2⟩ := finW hF
    subst f1
    subst f2
    exact GR.ret P
  replace hF := ite_f c7 hF
  refine GR.f c7 ?_
  by_cases c13 : v1 ≤ 0
  · replace hF := ite_t c13 hF
    refine GR.t c13 ?_
    exact rX9_readsRule_108  h0 P hF
  replace hF := ite_f c13 hF
  refine GR.f c13 ?_
  replace hF := ob_some hF
  obtain ⟨q14, h15, hF⟩ := hF
  obtain ⟨g16, e17, P⟩ := rX9_isAlone (r := q14.1) (w' := q14.2) P h15
  refine GR.bind e17 ?_
  by_cases c18 : q14.1 = 0
  · replace hF := ite_t c18 hF
    refine GR.t c18 ?_
    refine GR.bind (P.rI (k := 7) h0 (by decide) (by decide) (by decide)) ?_
    replace hF := ob_some hF
    obtain ⟨q19, h20, hF⟩ := hF
    obtain ⟨g21, e22, P⟩ := rX9_ruleAt (r := q19.1) (w' := q19.2) P h20
    refine GR.bind e22 ?_
    replace hF := ob_some hF
    obtain ⟨q23, h24, hF⟩ := hF
    obtain ⟨g25, e26, P⟩ := rX9_isAlone (r := q23.1) (w' := q23.2) P h24
    refine GR.bind e26 ?_
    by_cases c27 : q23.1 = 0
    · replace hF := ite_t c27 hF
      refine GR.t c27 ?_
      exact rX9_readsRule_108  h0 P hF
    replace hF := ite_f c27 hF
    refine GR.f c27 ?_
    exact rX9_readsRule_98  h0 P hF
  replace hF := ite_f c18 hF
  refine GR.f c18 ?_
  exact rX9_readsRule_98  h0 P hF
def FX9_readsRule_36  (w : HS) (v0 : Nat) (v1 : Int32) (v2 : Int32) : Option (Int32 × HS) :=
  FX9_readsRule_41 w v0 v1 v2 (1 : Int32)
set_option maxHeartbeats 4000000 in
set_option maxRecDepth 100000 in
theorem rX9_readsRule_36 {ar : Nat → Nat → Nat} {c0 : Nat → Nat} {sz : Nat} {r : Int32} {w' : HS}   {g : PH} {w : HS} {v0 : Nat} {v1 : Int32} {v2 : Int32} (h0 : c0 v0 = 9) (P : Rel ar c0 sz g w) (hF : FX9_readsRule_36  w v0 v1 v2 = some (r, w')) : GR ar c0 sz r w' (fX9_readsRule_36  g v0 v1 v2) := by
  unfold FX9_readsRule_36 at hF
  unfold fX9_readsRule_36
  exact rX9_readsRule_41  h0 P hF
def FX9_readsRule (w : HS) (a0 : Nat) (a1 : Int32) : Option (Int32 × HS) :=
  okb (hc w a0 == 9) ((FX9_next w a0).bind fun q1 =>
  (if q1.1 = (118 : Int32) then (FX9_readsRule_36 q1.2 a0 a1 q1.1) else
  (if q1.1 = (97 : Int32) then (FX9_readsRule_36 q1.2 a0 a1 q1.1) else
  (if q1.1 = (115 : Int32) then (FX9_readsRule_36 q1.2 a0 a1 q1.1) else
  (if q1.1 = (107 : Int32) then (FX9_readsRule_36 q1.2 a0 a1 q1.1) else
  ((FX9_isAlone q1.2 q1.1).bind fun q9 =>
  (if q9.1 = 0 then (FX9_readsRule_41 q9.2 a0 a1 q1.1 (0 : Int32)) else
  (FX9_readsRule_36 q9.2 a0 a1 q1.1))))))))
set_option maxHeartbeats 4000000 in
set_option maxRecDepth 100000 in
theorem rX9_readsRule {ar : Nat → Nat → Nat} {c0 : Nat → Nat} {sz : Nat} {g : PH} {w w' : HS} {a0 : Nat} {a1 : Int32} {r : Int32} (P : Rel ar c0 sz g w) (hF : FX9_readsRule w a0 a1 = some (r, w')) : GR ar c0 sz r w' (fX9_readsRule g a0 a1) := by
  unfold FX9_readsRule at hF
  unfold fX9_readsRule
  replace hF := okb_some hF
  obtain ⟨h0, hF⟩ := hF
  replace h0 := P.cls h0
  refine GR.ok (P.rO h0 (by decide)) ?_
  replace hF := ob_some hF
  obtain ⟨q1, h2, hF⟩ := hF
  obtain ⟨g3, e4, P⟩ := rX9_next (r := q1.1) (w' := q1.2) P h2
  refine GR.bind e4 ?_
  by_cases c5 : q1.1 = (118 : Int32)
  · replace hF := ite_t c5 hF
    refine GR.t c5 ?_
    exact rX9_readsRule_36  h0 P hF
  replace hF := ite_f c5 hF
  refine GR.f c5 ?_
  by_cases c6 : q1.1 = (97 : Int32)
  · replace hF := ite_t c6 hF
    refine GR.t c6 ?_
    exact rX9_readsRule_36  h0 P hF
  replace hF := ite_f c6 hF
  refine GR.f c6 ?_
  by_cases c7 : q1.1 = (115 : Int32)
  · replace hF := ite_t c7 hF
    refine GR.t c7 ?_
    exact rX9_readsRule_36  h0 P hF
  replace hF := ite_f c7 hF
  refine GR.f c7 ?_
  by_cases c8 : q1.1 = (107 : Int32)
  · replace hF := ite_t c8 hF
    refine GR.t c8 ?_
    exact rX9_readsRule_36  h0 P hF
  replace hF := ite_f c8 hF
  refine GR.f c8 ?_
  replace hF := ob_some hF
  obtain ⟨q9, h10, hF⟩ := hF
  obtain ⟨g11, e12, P⟩ := rX9_isAlone (r := q9.1) (w' := q9.2) P h10
  refine GR.bind e12 ?_
  by_cases c13 : q9.1 = 0
  · replace hF := ite_t c13 hF
    refine GR.t c13 ?_
    exact rX9_readsRule_41  h0 P hF
  replace hF := ite_f c13 hF
  refine GR.f c13 ?_
  exact rX9_readsRule_36  h0 P hF
def FX9_readsKind_7  : Nat → HS → Nat → Int32 → Option (Int32 × HS)
  | 0, _, _, _ => none
  | n + 1, w, v0, v1 =>
  (FX9_readsRule w v0 v1).bind fun q1 =>
  (if q1.1 = 0 then (some ((0 : Int32), q1.2)) else
  ((FX9_takes q1.2 v0 (44 : Int32)).bind fun q6 =>
  (if q6.1 = 0 then (okb (inb (hi q6.2 v0 7) 9) (bnd (setA q6.2 v0 6 (hi q6.2 v0 7).toNatClampNeg (v1 + (1 : Int32))) fun w14 =>
  ((FX9_next w14 v0).bind fun q16 =>
  (if q16.1 = (-1 : Int32) then (some ((1 : Int32), q16.2)) else
  ((FX9_fails q16.2 v0 (1 : Int32) (hi q16.2 v0 2)).bind fun q21 =>
  (if q21.1 = 0 then (some ((0 : Int32), q21.2)) else
  (some ((1 : Int32), q21.2)))))))) else
  (FX9_readsKind_7 n q6.2 v0 (v1 + (1 : Int32))))))
set_option maxHeartbeats 4000000 in
set_option maxRecDepth 100000 in
theorem rX9_readsKind_7 {ar : Nat → Nat → Nat} {c0 : Nat → Nat} {sz : Nat} {r : Int32} {w' : HS}   : ∀ (n : Nat) (g : PH) (w : HS) (v0 : Nat) (v1 : Int32), c0 v0 = 9 → Rel ar c0 sz g w → FX9_readsKind_7  n w v0 v1 = some (r, w') → GR ar c0 sz r w' (fX9_readsKind_7  n g v0 v1) := by
  intro n
  induction n with
  | zero =>
    intro g w v0 v1 h0 P hF
    rw [FX9_readsKind_7] at hF
    cases hF
  | succ n ih =>
    intro g w v0 v1 h0 P hF
    rw [FX9_readsKind_7] at hF
    rw [fX9_readsKind_7]
    replace hF := ob_some hF
    obtain ⟨q1, h2, hF⟩ := hF
    obtain ⟨g3, e4, P⟩ := rX9_readsRule (r := q1.1) (w' := q1.2) P h2
    refine GR.bind e4 ?_
    by_cases c5 : q1.1 = 0
    · replace hF := ite_t c5 hF
      refine GR.t c5 ?_
      obtain ⟨f1, f2⟩ := finW hF
      subst f1
      subst f2
      exact GR.ret P
    replace hF := ite_f c5 hF
    refine GR.f c5 ?_
    replace hF := ob_some hF
    obtain ⟨q6, h7, hF⟩ := hF
    obtain ⟨g8, e9, P⟩ := rX9_takes (r := q6.1) (w' := q6.2) P h7
    refine GR.bind e9 ?_
    by_cases c10 : q6.1 = 0
    · replace hF := ite_t c10 hF
      refine GR.t c10 ?_
      refine GR.bind (P.getRa (k := 6) h0 (by decide) (by decide) (by decide)) ?_
      refine GR.bind (P.rI (k := 7) h0 (by decide) (by decide) (by decide)) ?_
      replace hF := okb_some hF
      obtain ⟨h11, hF⟩ := hF
      replace hF := bnd_e hF
      obtain ⟨w14, e15, hF⟩ := hF
      obtain ⟨g12, e13, P⟩ := P.sI (k := 6) (kd := 0) (j := (hi q6.2 v0 7)) h0 (by decide) (by decide) (by decide) (by decide) h11 rfl e15
      refine GR.bind e13 ?_
      replace hF := ob_some hF
      obtain ⟨q16, h17, hF⟩ := hF
      obtain ⟨g18, e19, P⟩ := rX9_next (r := q16.1) (w' := q16.2) P h17
      refine GR.bind e19 ?_
      by_cases c20 : q16.1 = (-1 : Int32)
      · replace hF := ite_t c20 hF
        refine GR.t c20 ?_
        obtain ⟨f1, f2⟩ := finW hF
        subst f1
        subst f2
        exact GR.ret P
      replace hF := ite_f c20 hF
      refine GR.f c20 ?_
      refine GR.bind (P.rI (k := 2) h0 (by decide) (by decide) (by decide)) ?_
      replace hF := ob_some hF
      obtain ⟨q21, h22, hF⟩ := hF
      obtain ⟨g23, e24, P⟩ := rX9_fails (r := q21.1) (w' := q21.2) P h22
      refine GR.bind e24 ?_
      by_cases c25 : q21.1 = 0
      · replace hF := ite_t c25 hF
        refine GR.t c25 ?_
        obtain ⟨f1, f2⟩ := finW hF
        subst f1
        subst f2
        exact GR.ret P
      replace hF := ite_f c25 hF
      refine GR.f c25 ?_
      obtain ⟨f1, f2⟩ := finW hF
      subst f1
      subst f2
      exact GR.ret P
    replace hF := ite_f c10 hF
    refine GR.f c10 ?_
    exact ih _ _ _ _ h0 P hF
def FX9_readsKind (w : HS) (a0 : Nat) : Option (Int32 × HS) :=
  okb (hc w a0 == 9) (bnd (setI w a0 2 (0 : Int32)) fun w1 =>
  (FX9_readsKind_7 FUEL w1 a0 (0 : Int32)))
set_option maxHeartbeats 4000000 in
set_option maxRecDepth 100000 in
theorem rX9_readsKind {ar : Nat → Nat → Nat} {c0 : Nat → Nat} {sz : Nat} {g : PH} {w w' : HS} {a0 : Nat} {r : Int32} (P : Rel ar c0 sz g w) (hF : FX9_readsKind w a0 = some (r, w')) : GR ar c0 sz r w' (fX9_readsKind g a0) := by
  unfold FX9_readsKind at hF
  unfold fX9_readsKind
  replace hF := okb_some hF
  obtain ⟨h0, hF⟩ := hF
  replace h0 := P.cls h0
  refine GR.ok (P.rO h0 (by decide)) ?_
  replace hF := bnd_e hF
  obtain ⟨w1, e2, hF⟩ := hF
  obtain ⟨g3, e4, P⟩ := P.putI (k := 2) h0 (by decide) (by decide) (by decide) e2
  refine GR.bind e4 ?_
  exact rX9_readsKind_7  _ _ _ _ _ h0 P hF
def FX9_kind (w : HS) (a0 : Nat) : Option (Int32 × HS) :=
  okb (hc w a0 == 9) (if (hi w a0 7) = (8 : Int32) then (some ((-1 : Int32), w)) else
  (if (hi w a0 1) ≤ (100 : Int32) then ((FX9_readsKind w a0).bind fun q3 =>
  (bnd (setI q3.2 a0 1 (0 : Int32)) fun w7 =>
  (if q3.1 = 0 then (some (((-2 : Int32) - (hi w7 a0 3)), w7)) else
  (bnd (setI w7 a0 7 ((hi w7 a0 7) + (1 : Int32))) fun w12 =>
  (some (((hi w12 a0 7) - (1 : Int32)), w12)))))) else
  (some ((-1 : Int32), w))))
set_option maxHeartbeats 4000000 in
set_option maxRecDepth 100000 in
theorem rX9_kind {ar : Nat → Nat → Nat} {c0 : Nat → Nat} {sz : Nat} {g : PH} {w w' : HS} {a0 : Nat} {r : Int32} (P : Rel ar c0 sz g w) (hF : FX9_kind w a0 = some (r, w')) : GR ar c0 sz r w' (fX9_kind g a0) := by
  unfold FX9_kind at hF
  unfold fX9_kind
  replace hF := okb_some hF
  obtain ⟨h0, hF⟩ := hF
  replace h0 := P.cls h0
  refine GR.ok (P.rO h0 (by decide)) ?_
  refine GR.bind (P.rI (k := 7) h0 (by decide) (by decide) (by decide)) ?_
  by_cases c1 : (hi w a0 7) = (8 : Int32)
  · replace hF := ite_t c1 hF
    refine GR.t c1 ?_
    obtain ⟨f1, f2⟩ := finW hF
    subst f1
    subst f2
    exact GR.ret P
  replace hF := ite_f c1 hF
  refine GR.f c1 ?_
  refine GR.bind (P.rI (k := 1) h0 (by decide) (by decide) (by decide)) ?_
  by_cases c2 : (hi w a0 1) ≤ (100 : Int32)
  · replace hF := ite_t c2 hF
    refine GR.t c2 ?_
    replace hF := ob_some hF
    obtain ⟨q3, h4, hF⟩ := hF
    obtain ⟨g5, e6, P⟩ := rX9_readsKind (r := q3.1) (w' := q3.2) P h4
    refine GR.bind e6 ?_
    replace hF := bnd_e hF
    obtain ⟨w7, e8, hF⟩ := hF
    obtain ⟨g9, e10, P⟩ := P.putI (k := 1) h0 (by decide) (by decide) (by decide) e8
    refine GR.bind e10 ?_
    by_cases c11 : q3.1 = 0
    · replace hF := ite_t c11 hF
      refine GR.t c11 ?_
      refine GR.bind (P.rI (k := 3) h0 (by decide) (by decide) (by decide)) ?_
      obtain ⟨f1, f2⟩ := finW hF
      subst f1
      subst f2
      exact GR.ret P
    replace hF := ite_f c11 hF
    refine GR.f c11 ?_
    refine GR.bind (P.rI (k := 7) h0 (by decide) (by decide) (by decide)) ?_
    replace hF := bnd_e hF
    obtain ⟨w12, e13, hF⟩ := hF
    obtain ⟨g14, e15, P⟩ := P.putI (k := 7) h0 (by decide) (by decide) (by decide) e13
    refine GR.bind e15 ?_
    refine GR.bind (P.rI (k := 7) h0 (by decide) (by decide) (by decide)) ?_
    obtain ⟨f1, f2⟩ := finW hF
    subst f1
    subst f2
    exact GR.ret P
  replace hF := ite_f c2 hF
  refine GR.f c2 ?_
  obtain ⟨f1, f2⟩ := finW hF
  subst f1
  subst f2
  exact GR.ret P
def FX9_elementAt (w : HS) (a0 : Nat) (a1 : Int32) (a2 : Int32) (a3 : Int32) : Option (Int32 × HS) :=
  okb (hc w a0 == 9) (okb (inb ((((64 : Int32) * a1) + ((8 : Int32) * a2)) + a3) 448) (some ((ha w a0 8 ((((64 : Int32) * a1) + ((8 : Int32) * a2)) + a3).toNatClampNeg), w)))
set_option maxHeartbeats 4000000 in
set_option maxRecDepth 100000 in
theorem rX9_elementAt {ar : Nat → Nat → Nat} {c0 : Nat → Nat} {sz : Nat} {g : PH} {w w' : HS} {a0 : Nat} {a1 : Int32} {a2 : Int32} {a3 : Int32} {r : Int32} (P : Rel ar c0 sz g w) (hF : FX9_elementAt w a0 a1 a2 a3 = some (r, w')) : GR ar c0 sz r w' (fX9_elementAt g a0 a1 a2 a3) := by
  unfold FX9_elementAt at hF
  unfold fX9_elementAt
  replace hF := okb_some hF
  obtain ⟨h0, hF⟩ := hF
  replace h0 := P.cls h0
  refine GR.ok (P.rO h0 (by decide)) ?_
  refine GR.bind (P.getRa (k := 8) h0 (by decide) (by decide) (by decide)) ?_
  replace hF := okb_some hF
  obtain ⟨h1, hF⟩ := hF
  refine GR.bind (P.dI (k := 8) (n := ((((64 : Int32) * a1) + ((8 : Int32) * a2)) + a3).toNatClampNeg) h0 (by decide) (by decide) (by decide) (by decide) h1 rfl) ?_
  obtain ⟨f1, f2⟩ := finW hF
  subst f1
  subst f2
  exact GR.ret P
