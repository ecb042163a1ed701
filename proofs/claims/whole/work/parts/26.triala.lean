def FX7_numberAt (w : HS) (a0 : Nat) (a1 : Int32) : Option (Int32 × HS) :=
  okb (hc w a0 == 7) (if a1 < 0 then (some ((-1 : Int32), w)) else
  (if (60 : Int32) ≤ a1 then (some ((-1 : Int32), w)) else
  (if (hi w a0 2) ≤ a1 then (some ((-1 : Int32), w)) else
  (okb (inb a1 60) (some ((ha w a0 5 a1.toNatClampNeg), w))))))
set_option maxHeartbeats 4000000 in
set_option maxRecDepth 100000 in
theorem rX7_numberAt {ar : Nat → Nat → Nat} {c0 : Nat → Nat} {sz : Nat} {g : PH} {w w' : HS} {a0 : Nat} {a1 : Int32} {r : Int32} (P : Rel ar c0 sz g w) (hF : FX7_numberAt w a0 a1 = some (r, w')) : GR ar c0 sz r w' (fX7_numberAt g a0 a1) := by
  unfold FX7_numberAt at hF
  unfold fX7_numberAt
  replace hF := okb_some hF
  obtain ⟨h0, hF⟩ := hF
  replace h0 := P.cls h0
  refine GR.ok (P.rO h0 (by decide)) ?_
  by_cases c1 : a1 < 0
  · replace hF := ite_t c1 hF
    refine GR.t c1 ?_
    obtain ⟨f1, f2⟩ := finW hF
    subst f1
    subst f2
    exact GR.ret P
  replace hF := ite_f c1 hF
  refine GR.f c1 ?_
  by_cases c2 : (60 : Int32) ≤ a1
  · replace hF := ite_t c2 hF
    refine GR.t c2 ?_
    obtain ⟨f1, f2⟩ := finW hF
    subst f1
    subst f2
    exact GR.ret P
  replace hF := ite_f c2 hF
  refine GR.f c2 ?_
  refine GR.bind (P.rI (k := 2) h0 (by decide) (by decide) (by decide)) ?_
  by_cases c3 : (hi w a0 2) ≤ a1
  · replace hF := ite_t c3 hF
    refine GR.t c3 ?_
    obtain ⟨f1, f2⟩ := finW hF
    subst f1
    subst f2
    exact GR.ret P
  replace hF := ite_f c3 hF
  refine GR.f c3 ?_
  refine GR.bind (P.getRa (k := 5) h0 (by decide) (by decide) (by decide)) ?_
  replace hF := okb_some hF
  obtain ⟨h4, hF⟩ := hF
  refine GR.bind (P.dI (k := 5) (n := a1.toNatClampNeg) h0 (by decide) (by decide) (by decide) (by decide) h4 rfl) ?_
  obtain ⟨f1, f2⟩ := finW hF
  subst f1
  subst f2
  exact GR.ret P
def FX7_place (w : HS) (a0 : Nat) (a1 : Int32) (a2 : Int32) (a3 : Int32) : Option (Unit × HS) :=
  okb (hc w a0 == 7) (bnd (setI w a0 3 a1) fun w1 =>
  (bnd (setI w1 a0 0 a2) fun w5 =>
  (bnd (setI w5 a0 1 a3) fun w9 =>
  (some ((), w9)))))
set_option maxHeartbeats 4000000 in
set_option maxRecDepth 100000 in
theorem rX7_place {ar : Nat → Nat → Nat} {c0 : Nat → Nat} {sz : Nat} {g : PH} {w w' : HS} {a0 : Nat} {a1 : Int32} {a2 : Int32} {a3 : Int32} {r : Unit} (P : Rel ar c0 sz g w) (hF : FX7_place w a0 a1 a2 a3 = some (r, w')) : GR ar c0 sz r w' (fX7_place g a0 a1 a2 a3) := by
  unfold FX7_place at hF
  unfold fX7_place
  replace hF := okb_some hF
  obtain ⟨h0, hF⟩ := hF
  replace h0 := P.cls h0
  refine GR.ok (P.rO h0 (by decide)) ?_
  replace hF := bnd_e hF
  obtain ⟨w1, e2, hF⟩ := hF
  obtain ⟨g3, e4, P⟩ := P.putI (k := 3) h0 (by decide) (by decide) (by decide) e2
  refine GR.bind e4 ?_
  replace hF := bnd_e hF
  obtain ⟨w5, e6, hF⟩ := hF
  obtain ⟨g7, e8, P⟩ := P.putI (k := 0) h0 (by decide) (by decide) (by decide) e6
  refine GR.bind e8 ?_
  replace hF := bnd_e hF
  obtain ⟨w9, e10, hF⟩ := hF
  obtain ⟨g11, e12, P⟩ := P.putI (k := 1) h0 (by decide) (by decide) (by decide) e10
  refine GR.bind e12 ?_
  obtain ⟨f1, f2⟩ := finW hF
  subst f1
  subst f2
  exact GR.ret P
def FX7_rank_15  (w : HS) (v0 : Nat) (v2 : Int32) (s0 : Int32) : Option (Int32 × HS) :=
  if v2 = 0 then (some (s0, w)) else
  (some ((((hi w v0 3) - (1 : Int32)) - s0), w))
set_option maxHeartbeats 4000000 in
set_option maxRecDepth 100000 in
theorem rX7_rank_15 {ar : Nat → Nat → Nat} {c0 : Nat → Nat} {sz : Nat} {r : Int32} {w' : HS}   {g : PH} {w : HS} {v0 : Nat} {v2 : Int32} {s0 : Int32} (h0 : c0 v0 = 7) (P : Rel ar c0 sz g w) (hF : FX7_rank_15  w v0 v2 s0 = some (r, w')) : GR ar c0 sz r w' (fX7_rank_15  g v0 v2 s0) := by
  unfold FX7_rank_15 at hF
  unfold fX7_rank_15
  by_cases c1 : v2 = 0
  · replace hF := ite_t c1 hF
    refine GR.t c1 ?_
    obtain ⟨f1, f2⟩ := finW hF
    subst f1
    subst f2
    exact GR.ret P
  replace hF := ite_f c1 hF
  refine GR.f c1 ?_
  refine GR.bind (P.rI (k := 3) h0 (by decide) (by decide) (by decide)) ?_
  obtain ⟨f1, f2⟩ := finW hF
  subst f1
  subst f2
  exact GR.ret P
def FX7_rank (w : HS) (a0 : Nat) (a1 : Int32) (a2 : Int32) : Option (Int32 × HS) :=
  okb (hc w a0 == 7) (if a1 = 0 then (FX7_rank_15 w a0 a2 (hi w a0 1)) else
  (FX7_rank_15 w a0 a2 (hi w a0 0)))
set_option maxHeartbeats 4000000 in
set_option maxRecDepth 100000 in
theorem rX7_rank {ar : Nat → Nat → Nat} {c0 : Nat → Nat} {sz : Nat} {g : PH} {w w' : HS} {a0 : Nat} {a1 : Int32} {a2 : Int32} {r : Int32} (P : Rel ar c0 sz g w) (hF : FX7_rank w a0 a1 a2 = some (r, w')) : GR ar c0 sz r w' (fX7_rank g a0 a1 a2) := by
  unfold FX7_rank at hF
  unfold fX7_rank
  replace hF := okb_some hF
  obtain ⟨h0, hF⟩ := hF
  replace h0 := P.cls h0
  refine GR.ok (P.rO h0 (by decide)) ?_
  by_cases c1 : a1 = 0
  · replace hF := ite_t c1 hF
    refine GR.t c1 ?_
    refine GR.bind (P.rI (k := 1) h0 (by decide) (by decide) (by decide)) ?_
    exact rX7_rank_15  h0 P hF
  replace hF := ite_f c1 hF
  refine GR.f c1 ?_
  refine GR.bind (P.rI (k := 0) h0 (by decide) (by decide) (by decide)) ?_
  exact rX7_rank_15  h0 P hF
def FX7_note (w : HS) (a0 : Nat) (a1 : Int32) : Option (Unit × HS) :=
  okb (hc w a0 == 7) (if (60 : Int32) ≤ (hi w a0 2) then (bnd (setI w a0 2 ((hi w a0 2) + (1 : Int32))) fun w2 =>
  (some ((), w2))) else
  (okb (inb (hi w a0 2) 60) (bnd (setA w a0 5 (hi w a0 2).toNatClampNeg a1) fun w9 =>
  (bnd (setI w9 a0 2 ((hi w9 a0 2) + (1 : Int32))) fun w11 =>
  (some ((), w11))))))
set_option maxHeartbeats 4000000 in
set_option maxRecDepth 100000 in
theorem rX7_note {ar : Nat → Nat → Nat} {c0 : Nat → Nat} {sz : Nat} {g : PH} {w w' : HS} {a0 : Nat} {a1 : Int32} {r : Unit} (P : Rel ar c0 sz g w) (hF : FX7_note w a0 a1 = some (r, w')) : GR ar c0 sz r w' (fX7_note g a0 a1) := by
  unfold FX7_note at hF
  unfold fX7_note
  replace hF := okb_some hF
  obtain ⟨h0, hF⟩ := hF
  replace h0 := P.cls h0
  refine GR.ok (P.rO h0 (by decide)) ?_
  refine GR.bind (P.rI (k := 2) h0 (by decide) (by decide) (by decide)) ?_
  by_cases c1 : (60 : Int32) ≤ (hi w a0 2)
  · replace hF := ite_t c1 hF
    refine GR.t c1 ?_
    refine GR.bind (P.rI (k := 2) h0 (by decide) (by decide) (by decide)) ?_
    replace hF := bnd_e hF
    obtain ⟨w2, e3, hF⟩ := hF
    obtain ⟨g4, e5, P⟩ := P.putI (k := 2) h0 (by decide) (by decide) (by decide) e3
    refine GR.bind e5 ?_
    obtain ⟨f1, f2⟩ := finW hF
    subst f1
    subst f2
    exact GR.ret P
  replace hF := ite_f c1 hF
  refine GR.f c1 ?_
  refine GR.bind (P.getRa (k := 5) h0 (by decide) (by decide) (by decide)) ?_
  refine GR.bind (P.rI (k := 2) h0 (by decide) (by decide) (by decide)) ?_
  replace hF := okb_some hF
  obtain ⟨h6, hF⟩ := hF
  replace hF := bnd_e hF
  obtain ⟨w9, e10, hF⟩ := hF
  obtain ⟨g7, e8, P⟩ := P.sI (k := 5) (kd := 0) (j := (hi w a0 2)) h0 (by decide) (by decide) (by decide) (by decide) h6 rfl e10
  refine GR.bind e8 ?_
  refine GR.bind (P.rI (k := 2) h0 (by decide) (by decide) (by decide)) ?_
  replace hF := bnd_e hF
  obtain ⟨w11, e12, hF⟩ := hF
  obtain ⟨g13, e14, P⟩ := P.putI (k := 2) h0 (by decide) (by decide) (by decide) e12
  refine GR.bind e14 ?_
  obtain ⟨f1, f2⟩ := finW hF
  subst f1
  subst f2
  exact GR.ret P
def FX7_visit_87 (k7 : HS → Nat → Nat → Nat → Int32 → Int32 → Int32 → Int32 → Option (Unit × HS)) (w : HS) (v0 : Nat) (v1 : Nat) (v2 : Nat) (v3 : Int32) (v4 : Int32) (v6 : Int32) (v7 : Int32) : Option (Unit × HS) :=
  k7 w v0 v1 v2 v3 v4 v6 (v7 + (1 : Int32))
set_option maxHeartbeats 4000000 in
set_option maxRecDepth 100000 in
theorem rX7_visit_87 {ar : Nat → Nat → Nat} {c0 : Nat → Nat} {sz : Nat} {r : Unit} {w' : HS} {k7 : HS → Nat → Nat → Nat → Int32 → Int32 → Int32 → Int32 → Option (Unit × HS)} {j7 : PH → Nat → Nat → Nat → Int32 → Int32 → Int32 → Int32 → Option (Unit × PH)} (hk7 : ∀ (g : PH) (w : HS) (v0 : Nat) (v1 : Nat) (v2 : Nat) (v3 : Int32) (v4 : Int32) (v6 : Int32) (v7 : Int32), c0 v0 = 7 → Rel ar c0 sz g w → k7 w v0 v1 v2 v3 v4 v6 v7 = some (r, w') → GR ar c0 sz r w' (j7 g v0 v1 v2 v3 v4 v6 v7)) {g : PH} {w : HS} {v0 : Nat} {v1 : Nat} {v2 : Nat} {v3 : Int32} {v4 : Int32} {v6 : Int32} {v7 : Int32} (h0 : c0 v0 = 7) (P : Rel ar c0 sz g w) (hF : FX7_visit_87 k7 w v0 v1 v2 v3 v4 v6 v7 = some (r, w')) : GR ar c0 sz r w' (fX7_visit_87 j7 g v0 v1 v2 v3 v4 v6 v7) := by
  unfold FX7_visit_87 at hF
  unfold fX7_visit_87
  exact hk7 _ _ _ _ _ _ _ _ _ h0 P hF
def FX7_visit_84 (k7 : HS → Nat → Nat → Nat → Int32 → Int32 → Int32 → Int32 → Option (Unit × HS)) (w : HS) (v0 : Nat) (v1 : Nat) (v2 : Nat) (v3 : Int32) (v4 : Int32) (v6 : Int32) (v7 : Int32) : Option (Unit × HS) :=
  FX7_visit_87 (k7) w v0 v1 v2 v3 v4 (v6 + (1 : Int32)) v7
set_option maxHeartbeats 4000000 in
set_option maxRecDepth 100000 in
theorem rX7_visit_84 {ar : Nat → Nat → Nat} {c0 : Nat → Nat} {sz : Nat} {r : Unit} {w' : HS} {k7 : HS → Nat → Nat → Nat → Int32 → Int32 → Int32 → Int32 → Option (Unit × HS)} {j7 : PH → Nat → Nat → Nat → Int32 → Int32 → Int32 → Int32 → Option (Unit × PH)} (hk7 : ∀ (g : PH) (w : HS) (v0 : Nat) (v1 : Nat) (v2 : Nat) (v3 : Int32) (v4 : Int32) (v6 : Int32) (v7 : Int32), c0 v0 = 7 → Rel ar c0 sz g w → k7 w v0 v1 v2 v3 v4 v6 v7 = some (r, w') → GR ar c0 sz r w' (j7 g v0 v1 v2 v3 v4 v6 v7)) {g : PH} {w : HS} {v0 : Nat} {v1 : Nat} {v2 : Nat} {v3 : Int32} {v4 : Int32} {v6 : Int32} {v7 : Int32} (h0 : c0 v0 = 7) (P : Rel ar c0 sz g w) (hF : FX7_visit_84 k7 w v0 v1 v2 v3 v4 v6 v7 = some (r, w')) : GR ar c0 sz r w' (fX7_visit_84 j7 g v0 v1 v2 v3 v4 v6 v7) := by
  unfold FX7_visit_84 at hF
  unfold fX7_visit_84
  exact rX7_visit_87 hk7 h0 P hF
def FX7_visit_40 (k7 : HS → Nat → Nat → Nat → Int32 → Int32 → Int32 → Int32 → Option (Unit × HS)) (w : HS) (v0 : Nat) (v1 : Nat) (v2 : Nat) (v3 : Int32) (v4 : Int32) (v6 : Int32) (v7 : Int32) (v8 : Int32) (s0 : Int32) : Option (Unit × HS) :=
  (FX1_outcomeOf w v1 v4 s0 (hi w v0 4)).bind fun q1 =>
  (bnd (setI q1.2 v0 4 (q1.1 &&& (3 : Int32))) fun w5 =>
  (if s0 = 0 then (if (q1.1 >>> ((2 : Int32) &&& 31)) = v8 then (FX7_visit_84 (k7) w5 v0 v1 v2 v3 v4 v6 v7) else
  ((FX7_note w5 v0 v6).bind fun q11 =>
  (FX7_visit_84 (k7) q11.2 v0 v1 v2 v3 v4 v6 v7))) else
  (FX7_visit_87 (k7) w5 v0 v1 v2 v3 v4 v6 v7)))
set_option maxHeartbeats 4000000 in
set_option maxRecDepth 100000 in
theorem rX7_visit_40 {ar : Nat → Nat → Nat} {c0 : Nat → Nat} {sz : Nat} {r : Unit} {w' : HS} {k7 : HS → Nat → Nat → Nat → Int32 → Int32 → Int32 → Int32 → Option (Unit × HS)} {j7 : PH → Nat → Nat → Nat → Int32 → Int32 → Int32 → Int32 → Option (Unit × PH)} (hk7 : ∀ (g : PH) (w : HS) (v0 : Nat) (v1 : Nat) (v2 : Nat) (v3 : Int32) (v4 : Int32) (v6 : Int32) (v7 : Int32), c0 v0 = 7 → Rel ar c0 sz g w → k7 w v0 v1 v2 v3 v4 v6 v7 = some (r, w') → GR ar c0 sz r w' (j7 g v0 v1 v2 v3 v4 v6 v7)) {g : PH} {w : HS} {v0 : Nat} {v1 : Nat} {v2 : Nat} {v3 : Int32} {v4 : Int32} {v6 : Int32} {v7 : Int32} {v8 : Int32} {s0 : Int32} (h0 : c0 v0 = 7) (P : Rel ar c0 sz g w) (hF : FX7_visit_40 k7 w v0 v1 v2 v3 v4 v6 v7 v8 s0 = some (r, w')) : GR ar c0 sz r w' (fX7_visit_40 j7 g v0 v1 v2 v3 v4 v6 v7 v8 s0) := by
  unfold FX7_visit_40 at hF
  unfold fX7_visit_40
  refine GR.bind (P.rI (k := 4) h0 (by decide) (by decide) (by decide)) ?_
  replace hF := ob_some hF
  obtain ⟨q1, h2, hF⟩ := hF
  obtain ⟨g3, e4, P⟩ := rX1_outcomeOf (r := q1.1) (w' := q1.2) P h2
  refine GR.bind e4 ?_
  replace hF := bnd_e hF
  obtain ⟨w5, e6, hF⟩ := hF
  obtain ⟨g7, e8, P⟩ := P.putI (k := 4) h0 (by decide) (by decide) (by decide) e6
  refine GR.bind e8 ?_
  by_cases c9 : s0 = 0
  · replace hF := ite_t c9 hF
    refine GR.t c9 ?_
    by_cases c10 : (q1.1 >>> ((2 : Int32) &&& 31)) = v8
    · replace hF := ite_t c10 hF
      refine GR.t c10 ?_
      exact rX7_visit_84 hk7 h0 P hF
    replace hF := ite_f c10 hF
    refine GR.f c10 ?_
    replace hF := ob_some hF
    obtain ⟨q11, h12, hF⟩ := hF
    obtain ⟨g13, e14, P⟩ := rX7_note (r := q11.1) (w' := q11.2) P h12
    refine GR.bind e14 ?_
    exact rX7_visit_84 hk7 h0 P hF
  replace hF := ite_f c9 hF
  refine GR.f c9 ?_
  exact rX7_visit_87 hk7 h0 P hF
def FX7_visit_7  : Nat → HS → Nat → Nat → Nat → Int32 → Int32 → Int32 → Int32 → Option (Unit × HS)
  | 0, _, _, _, _, _, _, _, _ => none
  | n + 1, w, v0, v1, v2, v3, v4, v6, v7 =>
  (FX2_opsOf w v2 v3).bind fun q1 =>
  (if q1.1 ≤ v7 then (some ((), q1.2)) else
  ((FX2_opAt q1.2 v2 v3 v7).bind fun q6 =>
  (if (2 : Int32) ≤ q6.1 then (FX7_visit_40 (FX7_visit_7 n) q6.2 v0 v1 v2 v3 v4 v6 v7 q6.1 (q6.1 - (1 : Int32))) else
  (FX7_visit_40 (FX7_visit_7 n) q6.2 v0 v1 v2 v3 v4 v6 v7 q6.1 (0 : Int32)))))
set_option maxHeartbeats 4000000 in
set_option maxRecDepth 100000 in
theorem rX7_visit_7 {ar : Nat → Nat → Nat} {c0 : Nat → Nat} {sz : Nat} {r : Unit} {w' : HS}   : ∀ (n : Nat) (g : PH) (w : HS) (v0 : Nat) (v1 : Nat) (v2 : Nat) (v3 : Int32) (v4 : Int32) (v6 : Int32) (v7 : Int32), c0 v0 = 7 → Rel ar c0 sz g w → FX7_visit_7  n w v0 v1 v2 v3 v4 v6 v7 = some (r, w') → GR ar c0 sz r w' (fX7_visit_7  n g v0 v1 v2 v3 v4 v6 v7) := by
  intro n
  induction n with
  | zero =>
    intro g w v0 v1 v2 v3 v4 v6 v7 h0 P hF
    rw [FX7_visit_7] at hF
    cases hF
  | succ n ih =>
    intro g w v0 v1 v2 v3 v4 v6 v7 h0 P hF
    rw [FX7_visit_7] at hF
    rw [fX7_visit_7]
    replace hF := ob_some hF
    obtain ⟨q1, h2, hF⟩ := hF
    obtain ⟨g3, e4, P⟩ := rX2_opsOf (r := q1.1) (w' := q1.2) P h2
    refine GR.bind e4 ?_
    by_cases c5 : q1.1 ≤ v7
    · replace hF := ite_t c5 hF
      refine GR.t c5 ?_
      obtain ⟨f1, f2⟩ := finW hF
      subst f1
      subst f2
      exact GR.ret P
    replace hF := ite_f c5 hF
    refine GR.f c5 ?_
    replace hF := ob_some hF
    obtain ⟨q6, h7, hF⟩ := hF
    obtain ⟨g8, e9, P⟩ := rX2_opAt (r := q6.1) (w' := q6.2) P h7
    refine GR.bind e9 ?_
    by_cases c10 : (2 : Int32) ≤ q6.1
    · replace hF := ite_t c10 hF
      refine GR.t c10 ?_
      exact rX7_visit_40 ih h0 P hF
    replace hF := ite_f c10 hF
    refine GR.f c10 ?_
    exact rX7_visit_40 ih h0 P hF
def FX7_visit (w : HS) (a0 : Nat) (a1 : Nat) (a2 : Nat) (a3 : Int32) (a4 : Int32) (a5 : Int32) : Option (Unit × HS) :=
  okb (hc w a0 == 7) (FX7_visit_7 FUEL w a0 a1 a2 a3 a4 a5 (0 : Int32))
set_option maxHeartbeats 4000000 in
set_option maxRecDepth 100000 in
theorem rX7_visit {ar : Nat → Nat → Nat} {c0 : Nat → Nat} {sz : Nat} {g : PH} {w w' : HS} {a0 : Nat} {a1 : Nat} {a2 : Nat} {a3 : Int32} {a4 : Int32} {a5 : Int32} {r : Unit} (P : Rel ar c0 sz g w) (hF : FX7_visit w a0 a1 a2 a3 a4 a5 = some (r, w')) : GR ar c0 sz r w' (fX7_visit g a0 a1 a2 a3 a4 a5) := by
  unfold FX7_visit at hF
  unfold fX7_visit
  replace hF := okb_some hF
  obtain ⟨h0, hF⟩ := hF
  replace h0 := P.cls h0
  refine GR.ok (P.rO h0 (by decide)) ?_
  exact rX7_visit_7  _ _ _ _ _ _ _ _ _ _ h0 P hF
def FX7_go_65 (k20 : HS → Nat → Nat → Nat → Int32 → Int32 → Int32 → Option (Int32 × HS)) (w : HS) (v0 : Nat) (v1 : Nat) (v2 : Nat) (v4 : Int32) (v5 : Int32) (v6 : Int32) (v7 : Int32) (s0 : Int32) : Option (Int32 × HS) :=
  (FX7_rank w v0 s0 v7).bind fun q1 =>
  ((FX2_readsOf q1.2 v2 v6).bind fun q5 =>
  ((FX7_visit q5.2 v0 v1 v2 v6 s0 (v5 + (q1.1 * q5.1))).bind fun q9 =>
  ((FX7_rank q9.2 v0 ((1 : Int32) - s0) v7).bind fun q13 =>
  ((FX2_readsOf q13.2 v2 v6).bind fun q17 =>
  ((FX7_visit q17.2 v0 v1 v2 v6 ((1 : Int32) - s0) (v5 + (q13.1 * q17.1))).bind fun q21 =>
  ((FX2_readsOf q21.2 v2 v6).bind fun q25 =>
  (k20 q25.2 v0 v1 v2 v4 (v5 + ((hi q21.2 v0 3) * q25.1)) (v6 + (1 : Int32)))))))))
set_option maxHeartbeats 4000000 in
set_option maxRecDepth 100000 in
theorem rX7_go_65 {ar : Nat → Nat → Nat} {c0 : Nat → Nat} {sz : Nat} {r : Int32} {w' : HS} {k20 : HS → Nat → Nat → Nat → Int32 → Int32 → Int32 → Option (Int32 × HS)} {j20 : PH → Nat → Nat → Nat → Int32 → Int32 → Int32 → Option (Int32 × PH)} (hk20 : ∀ (g : PH) (w : HS) (v0 : Nat) (v1 : Nat) (v2 : Nat) (v4 : Int32) (v5 : Int32) (v6 : Int32), c0 v0 = 7 → Rel ar c0 sz g w → k20 w v0 v1 v2 v4 v5 v6 = some (r, w') → GR ar c0 sz r w' (j20 g v0 v1 v2 v4 v5 v6)) {g : PH} {w : HS} {v0 : Nat} {v1 : Nat} {v2 : Nat} {v4 : Int32} {v5 : Int32} {v6 : Int32} {v7 : Int32} {s0 : Int32} (h0 : c0 v0 = 7) (P : Rel ar c0 sz g w) (hF : FX7_go_65 k20 w v0 v1 v2 v4 v5 v6 v7 s0 = some (r, w')) : GR ar c0 sz r w' (fX7_go_65 j20 g v0 v1 v2 v4 v5 v6 v7 s0) := by
  unfold FX7_go_65 at hF
  unfold fX7_go_65
  replace hF := ob_some hF
  obtain ⟨q1, h2, hF⟩ := hF
  obtain ⟨g3, e4, P⟩ := rX7_rank (r := q1.1) (w' := q1.2) P h2
  refine GR.bind e4 ?_
  replace hF := ob_some hF
  obtain ⟨q5, h6, hF⟩ := hF
  obtain ⟨g7, e8, P⟩ := rX2_readsOf (r := q5.1) (w' := q5.2) P h6
  refine GR.bind e8 ?_
  replace hF := ob_some hF
  obtain ⟨q9, h10, hF⟩ := hF
  obtain ⟨g11, e12, P⟩ := rX7_visit (r := q9.1) (w' := q9.2) P h10
  refine GR.bind e12 ?_
  replace hF := ob_some hF
  obtain ⟨q13, h14, hF⟩ := hF
  obtain ⟨g15, e16, P⟩ := rX7_rank (r := q13.1) (w' := q13.2) P h14
  refine GR.bind e16 ?_
  replace hF := ob_some hF
  obtain ⟨q17, h18, hF⟩ := hF
  obtain ⟨g19, e20, P⟩ := rX2_readsOf (r := q17.1) (w' := q17.2) P h18
  refine GR.bind e20 ?_
  replace hF := ob_some hF
  obtain ⟨q21, h22, hF⟩ := hF
  obtain ⟨g23, e24, P⟩ := rX7_visit (r := q21.1) (w' := q21.2) P h22
  refine GR.bind e24 ?_
  refine GR.bind (P.rI (k := 3) h0 (by decide) (by decide) (by decide)) ?_
  replace hF := ob_some hF
  obtain ⟨q25, h26, hF⟩ := hF
  obtain ⟨g27, e28, P⟩ := rX2_readsOf (r := q25.1) (w' := q25.2) P h26
  refine GR.bind e28 ?_
  exact hk20 _ _ _ _ _ _ _ _ h0 P hF
def FX7_go_55 (k20 : HS → Nat → Nat → Nat → Int32 → Int32 → Int32 → Option (Int32 × HS)) (w : HS) (v0 : Nat) (v1 : Nat) (v2 : Nat) (v4 : Int32) (v5 : Int32) (v6 : Int32) (v7 : Int32) (s0 : Int32) : Option (Int32 × HS) :=
  if s0 = v7 then (FX7_go_65 (k20) w v0 v1 v2 v4 v5 v6 v7 (0 : Int32)) else
  (FX7_go_65 (k20) w v0 v1 v2 v4 v5 v6 v7 (1 : Int32))
set_option maxHeartbeats 4000000 in
set_option maxRecDepth 100000 in
theorem rX7_go_55 {ar : Nat → Nat → Nat} {c0 : Nat → Nat} {sz : Nat} {r : Int32} {w' : HS} {k20 : HS → Nat → Nat → Nat → Int32 → Int32 → Int32 → Option (Int32 × HS)} {j20 : PH → Nat → Nat → Nat → Int32 → Int32 → Int32 → Option (Int32 × PH)} (hk20 : ∀ (g : PH) (w : HS) (v0 : Nat) (v1 : Nat) (v2 : Nat) (v4 : Int32) (v5 : Int32) (v6 : Int32), c0 v0 = 7 → Rel ar c0 sz g w → k20 w v0 v1 v2 v4 v5 v6 = some (r, w') → GR ar c0 sz r w' (j20 g v0 v1 v2 v4 v5 v6)) {g : PH} {w : HS} {v0 : Nat} {v1 : Nat} {v2 : Nat} {v4 : Int32} {v5 : Int32} {v6 : Int32} {v7 : Int32} {s0 : Int32} (h0 : c0 v0 = 7) (P : Rel ar c0 sz g w) (hF : FX7_go_55 k20 w v0 v1 v2 v4 v5 v6 v7 s0 = some (r, w')) : GR ar c0 sz r w' (fX7_go_55 j20 g v0 v1 v2 v4 v5 v6 v7 s0) := by
  unfold FX7_go_55 at hF
  unfold fX7_go_55
  by_cases c1 : s0 = v7
  · replace hF := ite_t c1 hF
    refine GR.t c1 ?_
    exact rX7_go_65 hk20 h0 P hF
  replace hF := ite_f c1 hF
  refine GR.f c1 ?_
  exact rX7_go_65 hk20 h0 P hF
def FX7_go_20  : Nat → HS → Nat → Nat → Nat → Int32 → Int32 → Int32 → Option (Int32 × HS)
  | 0, _, _, _, _, _, _, _ => none
  | n + 1, w, v0, v1, v2, v4, v5, v6 =>
  okb (hc w v2 == 2) (if (hi w v2 0) ≤ v6 then (some ((hi w v0 2), w)) else
  ((FX2_isDown w v2 v6 v4).bind fun q3 =>
  (if (hi q3.2 v0 1) ≤ (hi q3.2 v0 0) then (FX7_go_55 (FX7_go_20 n) q3.2 v0 v1 v2 v4 v5 v6 q3.1 (0 : Int32)) else
  (FX7_go_55 (FX7_go_20 n) q3.2 v0 v1 v2 v4 v5 v6 q3.1 (1 : Int32)))))
set_option maxHeartbeats 4000000 in
set_option maxRecDepth 100000 in
theorem rX7_go_20 {ar : Nat → Nat → Nat} {c0 : Nat → Nat} {sz : Nat} {r : Int32} {w' : HS}   : ∀ (n : Nat) (g : PH) (w : HS) (v0 : Nat) (v1 : Nat) (v2 : Nat) (v4 : Int32) (v5 : Int32) (v6 : Int32), c0 v0 = 7 → Rel ar c0 sz g w → FX7_go_20  n w v0 v1 v2 v4 v5 v6 = some (r, w') → GR ar c0 sz r w' (fX7_go_20  n g v0 v1 v2 v4 v5 v6) := by
  intro n
  induction n with
  | zero =>
    intro g w v0 v1 v2 v4 v5 v6 h0 P hF
    rw [FX7_go_20] at hF
    cases hF
  | succ n ih =>
    intro g w v0 v1 v2 v4 v5 v6 h0 P hF
    rw [FX7_go_20] at hF
    rw [fX7_go_20]
    replace hF := okb_some hF
    obtain ⟨h1, hF⟩ := hF
    replace h1 := P.cls h1
    refine GR.bind (P.rI (k := 0) h1 (by decide) (by decide) (by decide)) ?_
    by_cases c2 : (hi w v2 0) ≤ v6
    · replace hF := ite_t c2 hF
      refine GR.t c2 ?_
      refine GR.bind (P.rI (k := 2) h0 (by decide) (by decide) (by decide)) ?_
      obtain ⟨f1, f2⟩ := finW hF
      subst f1
      subst f2
      exact GR.ret P
    replace hF := ite_f c2 hF
    refine GR.f c2 ?_
    replace hF := ob_some hF
    obtain ⟨q3, h4, hF⟩ := hF
    obtain ⟨g5, e6, P⟩ := rX2_isDown (r := q3.1) (w' := q3.2) P h4
    refine GR.bind e6 ?_
    refine GR.bind (P.rI (k := 0) h0 (by decide) (by decide) (by decide)) ?_
    refine GR.bind (P.rI (k := 1) h0 (by decide) (by decide) (by decide)) ?_
    by_cases c7 : (hi q3.2 v0 1) ≤ (hi q3.2 v0 0)
    · replace hF := ite_t c7 hF
      refine GR.t c7 ?_
      exact rX7_go_55 ih h0 P hF
    replace hF := ite_f c7 hF
    refine GR.f c7 ?_
    exact rX7_go_55 ih h0 P hF
def FX7_go (w : HS) (a0 : Nat) (a1 : Nat) (a2 : Nat) (a3 : Int32) (a4 : Int32) : Option (Int32 × HS) :=
  okb (hc w a0 == 7) (bnd (setI w a0 2 (0 : Int32)) fun w1 =>
  ((FX1_settledFrom w1 a1 a3).bind fun q5 =>
  (bnd (setI q5.2 a0 4 q5.1) fun w9 =>
  (FX7_go_20 FUEL w9 a0 a1 a2 a4 (0 : Int32) (0 : Int32)))))
set_option maxHeartbeats 4000000 in
set_option maxRecDepth 100000 in
theorem rX7_go {ar : Nat → Nat → Nat} {c0 : Nat → Nat} {sz : Nat} {g : PH} {w w' : HS} {a0 : Nat} {a1 : Nat} {a2 : Nat} {a3 : Int32} {a4 : Int32} {r : Int32} (P : Rel ar c0 sz g w) (hF : FX7_go w a0 a1 a2 a3 a4 = some (r, w')) : GR ar c0 sz r w' (fX7_go g a0 a1 a2 a3 a4) := by
  unfold FX7_go at hF
  unfold fX7_go
  replace hF := okb_some hF
  obtain ⟨h0, hF⟩ := hF
  replace h0 := P.cls h0
  refine GR.ok (P.rO h0 (by decide)) ?_
  replace hF := bnd_e hF
  obtain ⟨w1, e2, hF⟩ := hF
  obtain ⟨g3, e4, P⟩ := P.putI (k := 2) h0 (by decide) (by decide) (by decide) e2
  refine GR.bind e4 ?_
  replace hF := ob_some hF
  obtain ⟨q5, h6, hF⟩ := hF
  obtain ⟨g7, e8, P⟩ := rX1_settledFrom (r := q5.1) (w' := q5.2) P h6
  refine GR.bind e8 ?_
  replace hF := bnd_e hF
  obtain ⟨w9, e10, hF⟩ := hF
  obtain ⟨g11, e12, P⟩ := P.putI (k := 4) h0 (by decide) (by decide) (by decide) e10
  refine GR.bind e12 ?_
  exact rX7_go_20  _ _ _ _ _ _ _ _ _ h0 P hF
