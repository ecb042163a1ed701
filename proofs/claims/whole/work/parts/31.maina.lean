def FX8_feed (w : HS) (a0 : Nat) (a1 : Int32) (a2 : Int32) (a3 : Int32) (a4 : Int32) (a5 : Int32) : Option (Int32 × HS) :=
  okb (hc w a0 == 8) ((hp w a0 0).bind fun p1 =>
  (okb (hc w p1 == 6) (if (hi w p1 1) ≤ (180 : Int32) then ((hp w a0 0).bind fun p5 =>
  ((FX6_append w p5 a1).bind fun q7 =>
  ((hp q7.2 a0 0).bind fun p11 =>
  ((FX6_append q7.2 p11 a2).bind fun q13 =>
  ((hp q13.2 a0 0).bind fun p17 =>
  ((FX6_append q13.2 p17 a3).bind fun q19 =>
  ((hp q19.2 a0 0).bind fun p23 =>
  ((FX6_append q19.2 p23 a4).bind fun q25 =>
  ((hp q25.2 a0 0).bind fun p29 =>
  ((FX6_append q25.2 p29 a5).bind fun q31 =>
  ((hp q31.2 a0 0).bind fun p35 =>
  (okb (hc q31.2 p35 == 6) (some ((hi q31.2 p35 1), q31.2)))))))))))))) else
  (some ((-1 : Int32), w)))))
set_option maxHeartbeats 4000000 in
set_option maxRecDepth 100000 in
theorem rX8_feed {ar : Nat → Nat → Nat} {c0 : Nat → Nat} {sz : Nat} {g : PH} {w w' : HS} {a0 : Nat} {a1 : Int32} {a2 : Int32} {a3 : Int32} {a4 : Int32} {a5 : Int32} {r : Int32} (P : Rel ar c0 sz g w) (hF : FX8_feed w a0 a1 a2 a3 a4 a5 = some (r, w')) : GR ar c0 sz r w' (fX8_feed g a0 a1 a2 a3 a4 a5) := by
  unfold FX8_feed at hF
  unfold fX8_feed
  replace hF := okb_some hF
  obtain ⟨h0, hF⟩ := hF
  replace h0 := P.cls h0
  refine GR.ok (P.rO h0 (by decide)) ?_
  replace hF := ob_some hF
  obtain ⟨p1, h2, hF⟩ := hF
  refine GR.bind (P.getRo (k := 0) h0 (by decide) (by decide) (by decide) h2) ?_
  replace hF := okb_some hF
  obtain ⟨h3, hF⟩ := hF
  replace h3 := P.cls h3
  refine GR.bind (P.rI (k := 1) h3 (by decide) (by decide) (by decide)) ?_
  by_cases c4 : (hi w p1 1) ≤ (180 : Int32)
  · replace hF := ite_t c4 hF
    refine GR.t c4 ?_
    replace hF := ob_some hF
    obtain ⟨p5, h6, hF⟩ := hF
    refine GR.bind (P.getRo (k := 0) h0 (by decide) (by decide) (by decide) h6) ?_
    replace hF := ob_some hF
    obtain ⟨q7, h8, hF⟩ := hF
    obtain ⟨g9, e10, P⟩ := rX6_append (r := q7.1) (w' := q7.2) P h8
    refine GR.bind e10 ?_
    replace hF := ob_some hF
    obtain ⟨p11, h12, hF⟩ := hF
    refine GR.bind (P.getRo (k := 0) h0 (by decide) (by decide) (by decide) h12) ?_
    replace hF := ob_some hF
    obtain ⟨q13, h14, hF⟩ := hF
    obtain ⟨g15, e16, P⟩ := rX6_append (r := q13.1) (w' := q13.2) P h14
    refine GR.bind e16 ?_
    replace hF := ob_some hF
    obtain ⟨p17, h18, hF⟩ := hF
    refine GR.bind (P.getRo (k := 0) h0 (by decide) (by decide) (by decide) h18) ?_
    replace hF := ob_some hF
    obtain ⟨q19, h20, hF⟩ := hF
    obtain ⟨g21, e22, P⟩ := rX6_append (r := q19.1) (w' := q19.2) P h20
    refine GR.bind e22 ?_
    replace hF := ob_some hF
    obtain ⟨p23, h24, hF⟩ := hF
    refine GR.bind (P.getRo (k := 0) h0 (by decide) (by decide) (by decide) h24) ?_
    replace hF := ob_some hF
    obtain ⟨q25, h26, hF⟩ := hF
    obtain ⟨g27, e28, P⟩ := rX6_append (r := q25.1) (w' := q25.2) P h26
    refine GR.bind e28 ?_
    replace hF := ob_some hF
    obtain ⟨p29, h30, hF⟩ := hF
    refine GR.bind (P.getRo (k := 0) h0 (by decide) (by decide) (by decide) h30) ?_
    replace hF := ob_some hF
    obtain ⟨q31, h32, hF⟩ := hF
    obtain ⟨g33, e34, P⟩ := rX6_append (r := q31.1) (w' := q31.2) P h32
    refine GR.bind e34 ?_
    replace hF := ob_some hF
    obtain ⟨p35, h36, hF⟩ := hF
    refine GR.bind (P.getRo (k := 0) h0 (by decide) (by decide) (by decide) h36) ?_
    replace hF := okb_some hF
    obtain ⟨h37, hF⟩ := hF
    replace h37 := P.cls h37
    refine GR.bind (P.rI (k := 1) h37 (by decide) (by decide) (by decide)) ?_
    obtain ⟨f1, f2⟩ := finW hF
    subst f1
    subst f2
    exact GR.ret P
  replace hF := ite_f c4 hF
  refine GR.f c4 ?_
  obtain ⟨f1, f2⟩ := finW hF
  subst f1
  subst f2
  exact GR.ret P
def FX8_end (w : HS) (a0 : Nat) (a1 : Int32) : Option (Int32 × HS) :=
  okb (hc w a0 == 8) (if a1 < 0 then (some ((-1 : Int32), w)) else
  ((hp w a0 0).bind fun p2 =>
  (okb (hc w p2 == 6) (if a1 ≤ (hi w p2 1) then ((hp w a0 0).bind fun p6 =>
  (okb (hc w p6 == 6) (bnd (setI w p6 1 a1) fun w9 =>
  (some (a1, w9))))) else
  (some ((-1 : Int32), w))))))
set_option maxHeartbeats 4000000 in
set_option maxRecDepth 100000 in
theorem rX8_end {ar : Nat → Nat → Nat} {c0 : Nat → Nat} {sz : Nat} {g : PH} {w w' : HS} {a0 : Nat} {a1 : Int32} {r : Int32} (P : Rel ar c0 sz g w) (hF : FX8_end w a0 a1 = some (r, w')) : GR ar c0 sz r w' (fX8_end g a0 a1) := by
  unfold FX8_end at hF
  unfold fX8_end
  replace hF := okb_some hF
  obtain ⟨h0, hF⟩ := hF
  replace h0 := P.cls h0
  refine GR.ok (P.rO h0 (by decide)) ?_
  by_cases c1 : a1 < 0
  · replace hF := ite_t c1 hF
    refine GR.t c1 ?_
    obtain ⟨f1, f2⟩ := finW hF
    subst f1
    subst f2
    exact GR.ret P
  replace hF := ite_f c1 hF
  refine GR.f c1 ?_
  replace hF := ob_some hF
  obtain ⟨p2, h3, hF⟩ := hF
  refine GR.bind (P.getRo (k := 0) h0 (by decide) (by decide) (by decide) h3) ?_
  replace hF := okb_some hF
  obtain ⟨h4, hF⟩ := hF
  replace h4 := P.cls h4
  refine GR.bind (P.rI (k := 1) h4 (by decide) (by decide) (by decide)) ?_
  by_cases c5 : a1 ≤ (hi w p2 1)
  · replace hF := ite_t c5 hF
    refine GR.t c5 ?_
    replace hF := ob_some hF
    obtain ⟨p6, h7, hF⟩ := hF
    refine GR.bind (P.getRo (k := 0) h0 (by decide) (by decide) (by decide) h7) ?_
    replace hF := okb_some hF
    obtain ⟨h8, hF⟩ := hF
    replace h8 := P.cls h8
    replace hF := bnd_e hF
    obtain ⟨w9, e10, hF⟩ := hF
    obtain ⟨g11, e12, P⟩ := P.putI (k := 1) h8 (by decide) (by decide) (by decide) e10
    refine GR.bind e12 ?_
    obtain ⟨f1, f2⟩ := finW hF
    subst f1
    subst f2
    exact GR.ret P
  replace hF := ite_f c5 hF
  refine GR.f c5 ?_
  obtain ⟨f1, f2⟩ := finW hF
  subst f1
  subst f2
  exact GR.ret P
def FX8_kindAt (w : HS) (a0 : Nat) (a1 : Int32) : Option (Option Nat × HS) :=
  okb (hc w a0 == 8) (if a1 < 0 then (some (none, w)) else
  (if (hi w a0 2) ≤ a1 then (some (none, w)) else
  (if (8 : Int32) ≤ a1 then (some (none, w)) else
  (okb (inb a1 8) (some ((hq w a0 1 (a1.toNatClampNeg)), w))))))
set_option maxHeartbeats 4000000 in
set_option maxRecDepth 100000 in
theorem rX8_kindAt {ar : Nat → Nat → Nat} {c0 : Nat → Nat} {sz : Nat} {g : PH} {w w' : HS} {a0 : Nat} {a1 : Int32} {r : Option Nat} (P : Rel ar c0 sz g w) (hF : FX8_kindAt w a0 a1 = some (r, w')) : GR ar c0 sz r w' (fX8_kindAt g a0 a1) := by
  unfold FX8_kindAt at hF
  unfold fX8_kindAt
  replace hF := okb_some hF
  obtain ⟨h0, hF⟩ := hF
  replace h0 := P.cls h0
  refine GR.ok (P.rO h0 (by decide)) ?_
  by_cases c1 : a1 < 0
  · replace hF := ite_t c1 hF
    refine GR.t c1 ?_
    obtain ⟨f1, f2⟩ := finW hF
    subst f1
    subst f2
    exact GR.ret P
  replace hF := ite_f c1 hF
  refine GR.f c1 ?_
  refine GR.bind (P.rI (k := 2) h0 (by decide) (by decide) (by decide)) ?_
  by_cases c2 : (hi w a0 2) ≤ a1
  · replace hF := ite_t c2 hF
    refine GR.t c2 ?_
    obtain ⟨f1, f2⟩ := finW hF
    subst f1
    subst f2
    exact GR.ret P
  replace hF := ite_f c2 hF
  refine GR.f c2 ?_
  by_cases c3 : (8 : Int32) ≤ a1
  · replace hF := ite_t c3 hF
    refine GR.t c3 ?_
    obtain ⟨f1, f2⟩ := finW hF
    subst f1
    subst f2
    exact GR.ret P
  replace hF := ite_f c3 hF
  refine GR.f c3 ?_
  refine GR.bind (P.getRa (k := 1) h0 (by decide) (by decide) (by decide)) ?_
  replace hF := okb_some hF
  obtain ⟨h4, hF⟩ := hF
  refine GR.bind (P.dQ (k := 1) (n := a1.toNatClampNeg) h0 (by decide) (by decide) (by decide) (by decide) h4 rfl) ?_
  obtain ⟨f1, f2⟩ := finW hF
  subst f1
  subst f2
  exact GR.ret P
def FX8_ofKind (w : HS) (a0 : Nat) (a1 : Int32) (a2 : Int32) : Option (Int32 × HS) :=
  okb (hc w a0 == 8) ((FX8_kindAt w a0 a1).bind fun q1 =>
  (q1.1.elim (some ((-1 : Int32), q1.2)) (fun p5 =>
  if a2 = 0 then (okb (hc q1.2 p5 == 1) (some ((hi q1.2 p5 0), q1.2))) else
  (if a2 = 1 then (okb (hc q1.2 p5 == 1) (if (hi q1.2 p5 1) = 0 then (some ((0 : Int32), q1.2)) else
  (some ((1 : Int32), q1.2)))) else
  (if a2 = 2 then ((hp q1.2 a0 5).bind fun p13 =>
  (okb (hc q1.2 p13 == 3) ((FX1_placements q1.2 p5 (hi q1.2 p13 0)).bind fun q16 =>
  (some (q16.1, q16.2))))) else
  (if a2 = 3 then (okb (hc q1.2 p5 == 1) (if (hi q1.2 p5 1) = 0 then ((hp q1.2 a0 5).bind fun p23 =>
  (okb (hc q1.2 p23 == 3) (some ((hi q1.2 p23 0), q1.2)))) else
  ((hp q1.2 a0 5).bind fun p26 =>
  (okb (hc q1.2 p26 == 3) (some (((2 : Int32) * ((hi q1.2 p26 0) - (1 : Int32))), q1.2)))))) else
  (some ((-1 : Int32), q1.2))))))))
set_option maxHeartbeats 4000000 in
set_option maxRecDepth 100000 in
theorem rX8_ofKind {ar : Nat → Nat → Nat} {c0 : Nat → Nat} {sz : Nat} {g : PH} {w w' : HS} {a0 : Nat} {a1 : Int32} {a2 : Int32} {r : Int32} (P : Rel ar c0 sz g w) (hF : FX8_ofKind w a0 a1 a2 = some (r, w')) : GR ar c0 sz r w' (fX8_ofKind g a0 a1 a2) := by
  unfold FX8_ofKind at hF
  unfold fX8_ofKind
  replace hF := okb_some hF
  obtain ⟨h0, hF⟩ := hF
  replace h0 := P.cls h0
  refine GR.ok (P.rO h0 (by decide)) ?_
  replace hF := ob_some hF
  obtain ⟨q1, h2, hF⟩ := hF
  obtain ⟨g3, e4, P⟩ := rX8_kindAt (r := q1.1) (w' := q1.2) P h2
  refine GR.bind e4 ?_
  dsimp only
  by_cases h6 : q1.1 = none
  · replace hF := el_n h6 hF
    refine GR.en h6 ?_
    obtain ⟨f1, f2⟩ := finW hF
    subst f1
    subst f2
    exact GR.ret P
  obtain ⟨p5, h6⟩ := Option.ne_none_iff_exists'.mp h6
  replace hF := el_s h6 hF
  refine GR.es h6 ?_
  by_cases c7 : a2 = 0
  · replace hF := ite_t c7 hF
    refine GR.t c7 ?_
    replace hF := okb_some hF
    obtain ⟨h8, hF⟩ := hF
    replace h8 := P.cls h8
    refine GR.bind (P.rI (k := 0) h8 (by decide) (by decide) (by decide)) ?_
    obtain ⟨f1, f2⟩ := finW hF
    subst f1
    subst f2
    exact GR.ret P
  replace hF := ite_f c7 hF
  refine GR.f c7 ?_
  by_cases c9 : a2 = 1
  · replace hF := ite_t c9 hF
    refine GR.t c9 ?_
    replace hF := okb_some hF
    obtain ⟨h10, hF⟩ := hF
    replace h10 := P.cls h10
    refine GR.bind (P.rI (k := 1) h10 (by decide) (by decide) (by decide)) ?_
    by_cases c11 : (hi q1.2 p5 1) = 0
    · replace hF := ite_t c11 hF
      refine GR.t c11 ?_
      obtain ⟨f1, f2⟩ := finW hF
      subst f1
      subst f2
      exact GR.ret P
    replace hF := ite_f c11 hF
    refine GR.f c11 ?_
    obtain ⟨f1, f2⟩ := finW hF
    subst f1
    subst f2
    exact GR.ret P
  replace hF := ite_f c9 hF
  refine GR.f c9 ?_
  by_cases c12 : a2 = 2
  · replace hF := ite_t c12 hF
    refine GR.t c12 ?_
    replace hF := ob_some hF
    obtain ⟨p13, h14, hF⟩ := hF
    refine GR.bind (P.getRo (k := 5) h0 (by decide) (by decide) (by decide) h14) ?_
    replace hF := okb_some hF
    obtain ⟨h15, hF⟩ := hF
    replace h15 := P.cls h15
    refine GR.bind (P.rI (k := 0) h15 (by decide) (by decide) (by decide)) ?_
    replace hF := ob_some hF
    obtain ⟨q16, h17, hF⟩ := hF
    obtain ⟨g18, e19, P⟩ := rX1_placements (r := q16.1) (w' := q16.2) P h17
    refine GR.bind e19 ?_
    obtain ⟨f1, f2⟩ := finW hF
    subst f1
    subst f2
    exact GR.ret P
  replace hF := ite_f c12 hF
  refine GR.f c12 ?_
  by_cases c20 : a2 = 3
  · replace hF := ite_t c20 hF
    refine GR.t c20 ?_
    replace hF := okb_some hF
    obtain ⟨h21, hF⟩ := hF
    replace h21 := P.cls h21
    refine GR.bind (P.rI (k := 1) h21 (by decide) (by decide) (by decide)) ?_
    by_cases c22 : (hi q1.2 p5 1) = 0
    · replace hF := ite_t c22 hF
      refine GR.t c22 ?_
      replace hF := ob_some hF
      obtain ⟨p23, h24, hF⟩ := hF
      refine GR.bind (P.getRo (k := 5) h0 (by decide) (by decide) (by decide) h24) ?_
      replace hF := okb_some hF
      obtain ⟨h25, hF⟩ := hF
      replace h25 := P.cls h25
      refine GR.bind (P.rI (k := 0) h25 (by decide) (by decide) (by decide)) ?_
      obtain ⟨f1, f2⟩ := finW hF
      subst f1
      subst f2
      exact GR.ret P
    replace hF := ite_f c22 hF
    refine GR.f c22 ?_
    replace hF := ob_some hF
    obtain ⟨p26, h27, hF⟩ := hF
    refine GR.bind (P.getRo (k := 5) h0 (by decide) (by decide) (by decide) h27) ?_
    replace hF := okb_some hF
    obtain ⟨h28, hF⟩ := hF
    replace h28 := P.cls h28
    refine GR.bind (P.rI (k := 0) h28 (by decide) (by decide) (by decide)) ?_
    obtain ⟨f1, f2⟩ := finW hF
    subst f1
    subst f2
    exact GR.ret P
  replace hF := ite_f c20 hF
  refine GR.f c20 ?_
  obtain ⟨f1, f2⟩ := finW hF
  subst f1
  subst f2
  exact GR.ret P
def FX8_marchAt (w : HS) (a0 : Nat) (a1 : Int32) : Option (Option Nat × HS) :=
  okb (hc w a0 == 8) (if a1 < 0 then (some (none, w)) else
  (if (hi w a0 4) ≤ a1 then (some (none, w)) else
  (if (6 : Int32) ≤ a1 then (some (none, w)) else
  (okb (inb a1 6) (some ((hq w a0 3 (a1.toNatClampNeg)), w))))))
set_option maxHeartbeats 4000000 in
set_option maxRecDepth 100000 in
theorem rX8_marchAt {ar : Nat → Nat → Nat} {c0 : Nat → Nat} {sz : Nat} {g : PH} {w w' : HS} {a0 : Nat} {a1 : Int32} {r : Option Nat} (P : Rel ar c0 sz g w) (hF : FX8_marchAt w a0 a1 = some (r, w')) : GR ar c0 sz r w' (fX8_marchAt g a0 a1) := by
  unfold FX8_marchAt at hF
  unfold fX8_marchAt
  replace hF := okb_some hF
  obtain ⟨h0, hF⟩ := hF
  replace h0 := P.cls h0
  refine GR.ok (P.rO h0 (by decide)) ?_
  by_cases c1 : a1 < 0
  · replace hF := ite_t c1 hF
    refine GR.t c1 ?_
    obtain ⟨f1, f2⟩ := finW hF
    subst f1
    subst f2
    exact GR.ret P
  replace hF := ite_f c1 hF
  refine GR.f c1 ?_
  refine GR.bind (P.rI (k := 4) h0 (by decide) (by decide) (by decide)) ?_
  by_cases c2 : (hi w a0 4) ≤ a1
  · replace hF := ite_t c2 hF
    refine GR.t c2 ?_
    obtain ⟨f1, f2⟩ := finW hF
    subst f1
    subst f2
    exact GR.ret P
  replace hF := ite_f c2 hF
  refine GR.f c2 ?_
  by_cases c3 : (6 : Int32) ≤ a1
  · replace hF := ite_t c3 hF
    refine GR.t c3 ?_
    obtain ⟨f1, f2⟩ := finW hF
    subst f1
    subst f2
    exact GR.ret P
  replace hF := ite_f c3 hF
  refine GR.f c3 ?_
  refine GR.bind (P.getRa (k := 3) h0 (by decide) (by decide) (by decide)) ?_
  replace hF := okb_some hF
  obtain ⟨h4, hF⟩ := hF
  refine GR.bind (P.dQ (k := 3) (n := a1.toNatClampNeg) h0 (by decide) (by decide) (by decide) (by decide) h4 rfl) ?_
  obtain ⟨f1, f2⟩ := finW hF
  subst f1
  subst f2
  exact GR.ret P
def FX8_ofMarch (w : HS) (a0 : Nat) (a1 : Int32) (a2 : Int32) : Option (Int32 × HS) :=
  okb (hc w a0 == 8) ((FX8_marchAt w a0 a1).bind fun q1 =>
  (q1.1.elim (some ((-1 : Int32), q1.2)) (fun p5 =>
  if a2 = 0 then (okb (hc q1.2 p5 == 2) (some ((hi q1.2 p5 0), q1.2))) else
  (if a2 = 1 then (okb (hc q1.2 p5 == 2) (some ((hi q1.2 p5 1), q1.2))) else
  (if a2 = 2 then (okb (hc q1.2 p5 == 2) (some ((hi q1.2 p5 2), q1.2))) else
  (if a2 = 3 then (okb (hc q1.2 p5 == 2) (some ((hi q1.2 p5 3), q1.2))) else
  (if a2 = 4 then (okb (hc q1.2 p5 == 2) (some ((hi q1.2 p5 4), q1.2))) else
  (some ((-1 : Int32), q1.2)))))))))
set_option maxHeartbeats 4000000 in
set_option maxRecDepth 100000 in
theorem rX8_ofMarch {ar : Nat → Nat → Nat} {c0 : Nat → Nat} {sz : Nat} {g : PH} {w w' : HS} {a0 : Nat} {a1 : Int32} {a2 : Int32} {r : Int32} (P : Rel ar c0 sz g w) (hF : FX8_ofMarch w a0 a1 a2 = some (r, w')) : GR ar c0 sz r w' (fX8_ofMarch g a0 a1 a2) := by
  unfold FX8_ofMarch at hF
  unfold fX8_ofMarch
  replace hF := okb_some hF
  obtain ⟨h0, hF⟩ := hF
  replace h0 := P.cls h0
  refine GR.ok (P.rO h0 (by decide)) ?_
  replace hF := ob_some hF
  obtain ⟨q1, h2, hF⟩ := hF
  obtain ⟨g3, e4, P⟩ := rX8_marchAt (r := q1.1) (w' := q1.2) P h2
  refine GR.bind e4 ?_
  dsimp only
  by_cases h6 : q1.1 = none
  · replace hF := el_n h6 hF
    refine GR.en h6 ?_
    obtain ⟨f1, f2⟩ := finW hF
    subst f1
    subst f2
    exact GR.ret P
  obtain ⟨p5, h6⟩ := Option.ne_none_iff_exists'.mp h6
  replace hF := el_s h6 hF
  refine GR.es h6 ?_
  by_cases c7 : a2 = 0
  · replace hF := ite_t c7 hF
    refine GR.t c7 ?_
    replace hF := okb_some hF
    obtain ⟨h8, hF⟩ := hF
    replace h8 := P.cls h8
    refine GR.bind (P.rI (k := 0) h8 (by decide) (by decide) (by decide)) ?_
    obtain ⟨f1, f2⟩ := finW hF
    subst f1
    subst f2
    exact GR.ret P
  replace hF := ite_f c7 hF
  refine GR.f c7 ?_
  by_cases c9 : a2 = 1
  · replace hF := ite_t c9 hF
    refine GR.t c9 ?_
    replace hF := okb_some hF
    obtain ⟨h10, hF⟩ := hF
    replace h10 := P.cls h10
    refine GR.bind (P.rI (k := 1) h10 (by decide) (by decide) (by decide)) ?_
    obtain ⟨f1, f2⟩ := finW hF
    subst f1
    subst f2
    exact GR.ret P
  replace hF := ite_f c9 hF
  refine GR.f c9 ?_
  by_cases c11 : a2 = 2
  · replace hF := ite_t c11 hF
    refine GR.t c11 ?_
    replace hF := okb_some hF
    obtain ⟨h12, hF⟩ := hF
    replace h12 := P.cls h12
    refine GR.bind (P.rI (k := 2) h12 (by decide) (by decide) (by decide)) ?_
    obtain ⟨f1, f2⟩ := finW hF
    subst f1
    subst f2
    exact GR.ret P
  replace hF := ite_f c11 hF
  refine GR.f c11 ?_
  by_cases c13 : a2 = 3
  · replace hF := ite_t c13 hF
    refine GR.t c13 ?_
    replace hF := okb_some hF
    obtain ⟨h14, hF⟩ := hF
    replace h14 := P.cls h14
    refine GR.bind (P.rI (k := 3) h14 (by decide) (by decide) (by decide)) ?_
    obtain ⟨f1, f2⟩ := finW hF
    subst f1
    subst f2
    exact GR.ret P
  replace hF := ite_f c13 hF
  refine GR.f c13 ?_
  by_cases c15 : a2 = 4
  · replace hF := ite_t c15 hF
    refine GR.t c15 ?_
    replace hF := okb_some hF
    obtain ⟨h16, hF⟩ := hF
    replace h16 := P.cls h16
    refine GR.bind (P.rI (k := 4) h16 (by decide) (by decide) (by decide)) ?_
    obtain ⟨f1, f2⟩ := finW hF
    subst f1
    subst f2
    exact GR.ret P
  replace hF := ite_f c15 hF
  refine GR.f c15 ?_
  obtain ⟨f1, f2⟩ := finW hF
  subst f1
  subst f2
  exact GR.ret P
def FX8_element (w : HS) (a0 : Nat) (a1 : Int32) (a2 : Int32) (a3 : Int32) : Option (Int32 × HS) :=
  okb (hc w a0 == 8) ((FX8_marchAt w a0 a1).bind fun q1 =>
  (q1.1.elim (some ((-1 : Int32), q1.2)) (fun p5 =>
  if a2 < 0 then (some ((-1 : Int32), q1.2)) else
  (okb (hc q1.2 p5 == 2) (if a2 < (hi q1.2 p5 0) then (if a3 = 0 then ((FX2_wayOf q1.2 p5 a2).bind fun q11 =>
  (some ((if (2 : Int32) < q11.1 then (2 : Int32) else q11.1), q11.2))) else
  (if a3 = (1 : Int32) then ((FX2_opsOf q1.2 p5 a2).bind fun q16 =>
  (some (q16.1, q16.2))) else
  (if a3 < (2 : Int32) then (some ((-1 : Int32), q1.2)) else
  ((FX2_opsOf q1.2 p5 a2).bind fun q21 =>
  (if a3 < ((2 : Int32) + q21.1) then ((FX2_opAt q21.2 p5 a2 (a3 - (2 : Int32))).bind fun q26 =>
  (some (q26.1, q26.2))) else
  (some ((-1 : Int32), q21.2))))))) else
  (some ((-1 : Int32), q1.2)))))))
set_option maxHeartbeats 4000000 in
set_option maxRecDepth 100000 in
theorem rX8_element {ar : Nat → Nat → Nat} {c0 : Nat → Nat} {sz : Nat} {g : PH} {w w' : HS} {a0 : Nat} {a1 : Int32} {a2 : Int32} {a3 : Int32} {r : Int32} (P : Rel ar c0 sz g w) (hF : FX8_element w a0 a1 a2 a3 = some (r, w')) : GR ar c0 sz r w' (fX8_element g a0 a1 a2 a3) := by
  unfold FX8_element at hF
  unfold fX8_element
  replace hF := okb_some hF
  obtain ⟨h0, hF⟩ := hF
  replace h0 := P.cls h0
  refine GR.ok (P.rO h0 (by decide)) ?_
  replace hF := ob_some hF
  obtain ⟨q1, h2, hF⟩ := hF
  obtain ⟨g3, e4, P⟩ := rX8_marchAt (r := q1.1) (w' := q1.2) P h2
  refine GR.bind e4 ?_
  dsimp only
  by_cases h6 : q1.1 = none
  · replace hF := el_n h6 hF
    refine GR.en h6 ?_
    obtain ⟨f1, f2⟩ := finW hF
    subst f1
    subst f2
    exact GR.ret P
  obtain ⟨p5, h6⟩ := Option.ne_none_iff_exists'.mp h6
  replace hF := el_s h6 hF
  refine GR.es h6 ?_
  by_cases c7 : a2 < 0
  · replace hF := ite_t c7 hF
    refine GR.t c7 ?_
    obtain ⟨f1, f2⟩ := finW hF
    subst f1
    subst f2
    exact GR.ret P
  replace hF := ite_f c7 hF
  refine GR.f c7 ?_
  replace hF := okb_some hF
  obtain ⟨h8, hF⟩ := hF
  replace h8 := P.cls h8
  refine GR.bind (P.rI (k := 0) h8 (by decide) (by decide) (by decide)) ?_
  by_cases c9 : a2 < (hi q1.2 p5 0)
  · replace hF := ite_t c9 hF
    refine GR.t c9 ?_
    by_cases c10 : a3 = 0
    · replace hF := ite_t c10 hF
      refine GR.t c10 ?_
      replace hF := ob_some hF
      obtain ⟨q11, h12, hF⟩ := hF
      obtain ⟨g13, e14, P⟩ := rX2_wayOf (r := q11.1) (w' := q11.2) P h12
      refine GR.bind e14 ?_
      obtain ⟨f1, f2⟩ := finW hF
      subst f1
      subst f2
      exact GR.ret P
    replace hF := ite_f c10 hF
    refine GR.f c10 ?_
    by_cases c15 : a3 = (1 : Int32)
    · replace hF := ite_t c15 hF
      refine GR.t c15 ?_
      replace hF := ob_some hF
      obtain ⟨q16, h17, hF⟩ := hF
      obtain ⟨g18, e19, P⟩ := rX2_opsOf (r := q16.1) (w' := q16.2) P h17
      refine GR.bind e19 ?_
      obtain ⟨f1, f2⟩ := finW hF
      subst f1
      subst f2
      exact GR.ret P
    replace hF := ite_f c15 hF
    refine GR.f c15 ?_
    by_cases c20 : a3 < (2 : Int32)
    · replace hF := ite_t c20 hF
      refine GR.t c20 ?_
      obtain ⟨f1, f2⟩ := finW hF
      subst f1
      subst f2
      exact GR.ret P
    replace hF := ite_f c20 hF
    refine GR.f c20 ?_
    replace hF := ob_some hF
    obtain ⟨q21, h22, hF⟩ := hF
    obtain ⟨g23, e24, P⟩ := rX2_opsOf (r := q21.1) (w' := q21.2) P h22
    refine GR.bind e24 ?_
    by_cases c25 : a3 < ((2 : Int32) + q21.1)
    · replace hF := ite_t c25 hF
      refine GR.t c25 ?_
      replace hF := ob_some hF
      obtain ⟨q26, h27, hF⟩ := hF
      obtain ⟨g28, e29, P⟩ := rX2_opAt (r := q26.1) (w' := q26.2) P h27
      refine GR.bind e29 ?_
      obtain ⟨f1, f2⟩ := finW hF
      subst f1
      subst f2
      exact GR.ret P
    replace hF := ite_f c25 hF
    refine GR.f c25 ?_
    obtain ⟨f1, f2⟩ := finW hF
    subst f1
    subst f2
    exact GR.ret P
  replace hF := ite_f c9 hF
  refine GR.f c9 ?_
  obtain ⟨f1, f2⟩ := finW hF
  subst f1
  subst f2
  exact GR.ret P
def FX8_firstBlindChoice_3  : Nat → HS → Nat → Nat → Nat → Int32 → Int32 → Option (Int32 × HS)
  | 0, _, _, _, _, _, _ => none
  | n + 1, w, v0, v1, v2, v3, v4 =>
  (FX2_choices w v2).bind fun q1 =>
  (if q1.1 ≤ v4 then (some ((-1 : Int32), q1.2)) else
  ((hp q1.2 v0 7).bind fun p6 =>
  ((FX7_go q1.2 p6 v1 v2 v3 v4).bind fun q8 =>
  (if q8.1 = 0 then (some (v4, q8.2)) else
  (FX8_firstBlindChoice_3 n q8.2 v0 v1 v2 v3 (v4 + (1 : Int32)))))))
set_option maxHeartbeats 4000000 in
set_option maxRecDepth 100000 in
theorem rX8_firstBlindChoice_3 {ar : Nat → Nat → Nat} {c0 : Nat → Nat} {sz : Nat} {r : Int32} {w' : HS}   : ∀ (n : Nat) (g : PH) (w : HS) (v0 : Nat) (v1 : Nat) (v2 : Nat) (v3 : Int32) (v4 : Int32), c0 v0 = 8 → Rel ar c0 sz g w → FX8_firstBlindChoice_3  n w v0 v1 v2 v3 v4 = some (r, w') → GR ar c0 sz r w' (fX8_firstBlindChoice_3  n g v0 v1 v2 v3 v4) := by
  intro n
  induction n with
  | zero =>
    intro g w v0 v1 v2 v3 v4 h0 P hF
    rw [FX8_firstBlindChoice_3] at hF
    cases hF
  | succ n ih =>
    intro g w v0 v1 v2 v3 v4 h0 P hF
    rw [FX8_firstBlindChoice_3] at hF
    rw [fX8_firstBlindChoice_3]
    replace hF := ob_some hF
    obtain ⟨q1, h2, hF⟩ := hF
    obtain ⟨g3, e4, P⟩ := rX2_choices (r := q1.1) (w' := q1.2) P h2
    refine GR.bind e4 ?_
    by_cases c5 : q1.1 ≤ v4
    · replace hF := ite_t c5 hF
      refine GR.t c5 ?_
      obtain ⟨f1, f2⟩ := finW hF
      subst f1
      subst f2
      exact GR.ret P
    replace hF := ite_f c5 hF
    refine GR.f c5 ?_
    replace hF := ob_some hF
    obtain ⟨p6, h7, hF⟩ := hF
    refine GR.bind (P.getRo (k := 7) h0 (by decide) (by decide) (by decide) h7) ?_
    replace hF := ob_some hF
    obtain ⟨q8, h9, hF⟩ := hF
    obtain ⟨g10, e11, P⟩ := rX7_go (r := q8.1) (w' := q8.2) P h9
    refine GR.bind e11 ?_
    by_cases c12 : q8.1 = 0
    · replace hF := ite_t c12 hF
      refine GR.t c12 ?_
      obtain ⟨f1, f2⟩ := finW hF
      subst f1
      subst f2
      exact GR.ret P
    replace hF := ite_f c12 hF
    refine GR.f c12 ?_
    exact ih _ _ _ _ _ _ _ h0 P hF
def FX8_firstBlindChoice (w : HS) (a0 : Nat) (a1 : Nat) (a2 : Nat) (a3 : Int32) : Option (Int32 × HS) :=
  okb (hc w a0 == 8) (FX8_firstBlindChoice_3 FUEL w a0 a1 a2 a3 (0 : Int32))
set_option maxHeartbeats 4000000 in
set_option maxRecDepth 100000 in
theorem rX8_firstBlindChoice {ar : Nat → Nat → Nat} {c0 : Nat → Nat} {sz : Nat} {g : PH} {w w' : HS} {a0 : Nat} {a1 : Nat} {a2 : Nat} {a3 : Int32} {r : Int32} (P : Rel ar c0 sz g w) (hF : FX8_firstBlindChoice w a0 a1 a2 a3 = some (r, w')) : GR ar c0 sz r w' (fX8_firstBlindChoice g a0 a1 a2 a3) := by
  unfold FX8_firstBlindChoice at hF
  unfold fX8_firstBlindChoice
  replace hF := okb_some hF
  obtain ⟨h0, hF⟩ := hF
  replace h0 := P.cls h0
  refine GR.ok (P.rO h0 (by decide)) ?_
  exact rX8_firstBlindChoice_3  _ _ _ _ _ _ _ _ h0 P hF
def FX8_isAlwaysSeen_2  : Nat → HS → Nat → Nat → Nat → Int32 → Option (Int32 × HS)
  | 0, _, _, _, _, _ => none
  | n + 1, w, v0, v1, v2, v3 =>
  if (4 : Int32) ≤ v3 then (some ((1 : Int32), w)) else
  ((FX8_firstBlindChoice w v0 v1 v2 v3).bind fun q2 =>
  (if q2.1 = (-1 : Int32) then (FX8_isAlwaysSeen_2 n q2.2 v0 v1 v2 (v3 + (1 : Int32))) else
  (some ((0 : Int32), q2.2))))
set_option maxHeartbeats 4000000 in
set_option maxRecDepth 100000 in
theorem rX8_isAlwaysSeen_2 {ar : Nat → Nat → Nat} {c0 : Nat → Nat} {sz : Nat} {r : Int32} {w' : HS}   : ∀ (n : Nat) (g : PH) (w : HS) (v0 : Nat) (v1 : Nat) (v2 : Nat) (v3 : Int32), c0 v0 = 8 → Rel ar c0 sz g w → FX8_isAlwaysSeen_2  n w v0 v1 v2 v3 = some (r, w') → GR ar c0 sz r w' (fX8_isAlwaysSeen_2  n g v0 v1 v2 v3) := by
  intro n
  induction n with
  | zero =>
    intro g w v0 v1 v2 v3 h0 P hF
    rw [FX8_isAlwaysSeen_2] at hF
    cases hF
  | succ n ih =>
    intro g w v0 v1 v2 v3 h0 P hF
    rw [FX8_isAlwaysSeen_2] at hF
    rw [fX8_isAlwaysSeen_2]
    by_cases c1 : (4 : Int32) ≤ v3
    · replace hF := ite_t c1 hF
      refine GR.t c1 ?_
      obtain ⟨f1, f2⟩ := finW hF
      subst f1
      subst f2
      exact GR.ret P
    replace hF := ite_f c1 hF
    refine GR.f c1 ?_
    replace hF := ob_some hF
    obtain ⟨q2, h3, hF⟩ := hF
    obtain ⟨g4, e5, P⟩ := rX8_firstBlindChoice (r := q2.1) (w' := q2.2) P h3
    refine GR.bind e5 ?_
    by_cases c6 : q2.1 = (-1 : Int32)
    · replace hF := ite_t c6 hF
      refine GR.t c6 ?_
      exact ih _ _ _ _ _ _ h0 P hF
    replace hF := ite_f c6 hF
    refine GR.f c6 ?_
    obtain ⟨f1, f2⟩ := finW hF
    subst f1
    subst f2
    exact GR.ret P
def FX8_isAlwaysSeen (w : HS) (a0 : Nat) (a1 : Nat) (a2 : Nat) : Option (Int32 × HS) :=
  okb (hc w a0 == 8) (FX8_isAlwaysSeen_2 FUEL w a0 a1 a2 (0 : Int32))
set_option maxHeartbeats 4000000 in
set_option maxRecDepth 100000 in
theorem rX8_isAlwaysSeen {ar : Nat → Nat → Nat} {c0 : Nat → Nat} {sz : Nat} {g : PH} {w w' : HS} {a0 : Nat} {a1 : Nat} {a2 : Nat} {r : Int32} (P : Rel ar c0 sz g w) (hF : FX8_isAlwaysSeen w a0 a1 a2 = some (r, w')) : GR ar c0 sz r w' (fX8_isAlwaysSeen g a0 a1 a2) := by
  unfold FX8_isAlwaysSeen at hF
  unfold fX8_isAlwaysSeen
  replace hF := okb_some hF
  obtain ⟨h0, hF⟩ := hF
  replace h0 := P.cls h0
  refine GR.ok (P.rO h0 (by decide)) ?_
  exact rX8_isAlwaysSeen_2  _ _ _ _ _ _ _ h0 P hF
def FX8_bothOrders_96  (w : HS) (v0 : Nat) (v5 : Int32) (s0 : Int32) (s1 : Int32) : Option (Int32 × HS) :=
  okb (inb v5 48) (bnd (setA w v0 8 v5.toNatClampNeg ((1 : Int32) + (s1 + s0))) fun w4 =>
  (okb (inb v5 48) (some (((ha w4 v0 8 v5.toNatClampNeg) - (1 : Int32)), w4))))
set_option maxHeartbeats 4000000 in
set_option maxRecDepth 100000 in
theorem rX8_bothOrders_96 {ar : Nat → Nat → Nat} {c0 : Nat → Nat} {sz : Nat} {r : Int32} {w' : HS}   {g : PH} {w : HS} {v0 : Nat} {v5 : Int32} {s0 : Int32} {s1 : Int32} (h0 : c0 v0 = 8) (P : Rel ar c0 sz g w) (hF : FX8_bothOrders_96  w v0 v5 s0 s1 = some (r, w')) : GR ar c0 sz r w' (fX8_bothOrders_96  g v0 v5 s0 s1) := by
  unfold FX8_bothOrders_96 at hF
  unfold fX8_bothOrders_96
  refine GR.bind (P.getRa (k := 8) h0 (by decide) (by decide) (by decide)) ?_
  replace hF := okb_some hF
  obtain ⟨h1, hF⟩ := hF
  replace hF := bnd_e hF
  obtain ⟨w4, e5, hF⟩ := hF
  obtain ⟨g2, e3, P⟩ := P.sI (k := 8) (kd := 0) (j := v5) h0 (by decide) (by decide) (by decide) (by decide) h1 rfl e5
  refine GR.bind e3 ?_
  refine GR.bind (P.getRa (k := 8) h0 (by decide) (by decide) (by decide)) ?_
  replace hF := okb_some hF
  obtain ⟨h6, hF⟩ := hF
  refine GR.bind (P.dI (k := 8) (n := v5.toNatClampNeg) h0 (by decide) (by decide) (by decide) (by decide) h6 rfl) ?_
  obtain ⟨f1, f2⟩ := finW hF
  subst f1
  subst f2
  exact GR.ret P
def FX8_bothOrders_67  (w : HS) (v0 : Nat) (v3 : Nat) (v4 : Nat) (v5 : Int32) (s0 : Int32) : Option (Int32 × HS) :=
  (hp w v0 7).bind fun p1 =>
  ((FX7_place w p1 (2 : Int32) (1 : Int32) (0 : Int32)).bind fun q3 =>
  ((FX8_isAlwaysSeen q3.2 v0 v3 v4).bind fun q7 =>
  (if q7.1 = 0 then (FX8_bothOrders_96 q7.2 v0 v5 (0 : Int32) s0) else
  (FX8_bothOrders_96 q7.2 v0 v5 (2 : Int32) s0))))
set_option maxHeartbeats 4000000 in
set_option maxRecDepth 100000 in
theorem rX8_bothOrders_67 {ar : Nat → Nat → Nat} {c0 : Nat → Nat} {sz : Nat} {r : Int32} {w' : HS}   {g : PH} {w : HS} {v0 : Nat} {v3 : Nat} {v4 : Nat} {v5 : Int32} {s0 : Int32} (h0 : c0 v0 = 8) (P : Rel ar c0 sz g w) (hF : FX8_bothOrders_67  w v0 v3 v4 v5 s0 = some (r, w')) : GR ar c0 sz r w' (fX8_bothOrders_67  g v0 v3 v4 v5 s0) := by
  unfold FX8_bothOrders_67 at hF
  unfold fX8_bothOrders_67
  replace hF := ob_some hF
  obtain ⟨p1, h2, hF⟩ := hF
  refine GR.bind (P.getRo (k := 7) h0 (by decide) (by decide) (by decide) h2) ?_
  replace hF := ob_some hF
  obtain ⟨q3, h4, hF⟩ := hF
  obtain ⟨g5, e6, P⟩ := rX7_place (r := q3.1) (w' := q3.2) P h4
  refine GR.bind e6 ?_
  replace hF := ob_some hF
  obtain ⟨q7, h8, hF⟩ := hF
  obtain ⟨g9, e10, P⟩ := rX8_isAlwaysSeen (r := q7.1) (w' := q7.2) P h8
  refine GR.bind e10 ?_
  by_cases c11 : q7.1 = 0
  · replace hF := ite_t c11 hF
    refine GR.t c11 ?_
    exact rX8_bothOrders_96  h0 P hF
  replace hF := ite_f c11 hF
  refine GR.f c11 ?_
  exact rX8_bothOrders_96  h0 P hF
def FX8_bothOrders (w : HS) (a0 : Nat) (a1 : Int32) (a2 : Int32) : Option (Int32 × HS) :=
  okb (hc w a0 == 8) ((FX8_kindAt w a0 a2).bind fun q1 =>
  ((FX8_marchAt q1.2 a0 a1).bind fun q5 =>
  (q1.1.elim (some ((-1 : Int32), q5.2)) (fun p9 =>
  q5.1.elim (some ((-1 : Int32), q5.2)) (fun p11 =>
  okb (inb ((a1 * (8 : Int32)) + a2) 48) (if (ha q5.2 a0 8 ((a1 * (8 : Int32)) + a2).toNatClampNeg) = 0 then ((hp q5.2 a0 7).bind fun p15 =>
  ((FX7_place q5.2 p15 (2 : Int32) (0 : Int32) (1 : Int32)).bind fun q17 =>
  ((FX8_isAlwaysSeen q17.2 a0 p9 p11).bind fun q21 =>
  (if q21.1 = 0 then (FX8_bothOrders_67 q21.2 a0 p9 p11 ((a1 * (8 : Int32)) + a2) (0 : Int32)) else
  (FX8_bothOrders_67 q21.2 a0 p9 p11 ((a1 * (8 : Int32)) + a2) (1 : Int32)))))) else
  (okb (inb ((a1 * (8 : Int32)) + a2) 48) (some (((ha q5.2 a0 8 ((a1 * (8 : Int32)) + a2).toNatClampNeg) - (1 : Int32)), q5.2)))))))))
set_option maxHeartbeats 4000000 in
set_option maxRecDepth 100000 in
theorem rX8_bothOrders {ar : Nat → Nat → Nat} {c0 : Nat → Nat} {sz : Nat} {g : PH} {w w' : HS} {a0 : Nat} {a1 : Int32} {a2 : Int32} {r : Int32} (P : Rel ar c0 sz g w) (hF : FX8_bothOrders w a0 a1 a2 = some (r, w')) : GR ar c0 sz r w' (fX8_bothOrders g a0 a1 a2) := by
  unfold FX8_bothOrders at hF
  unfold fX8_bothOrders
  replace hF := okb_some hF
  obtain ⟨h0, hF⟩ := hF
  replace h0 := P.cls h0
  refine GR.ok (P.rO h0 (by decide)) ?_
  replace hF := ob_some hF
  obtain ⟨q1, h2, hF⟩ := hF
  obtain ⟨g3, e4, P⟩ := rX8_kindAt (r := q1.1) (w' := q1.2) P h2
  refine GR.bind e4 ?_
  dsimp only
  replace hF := ob_some hF
  obtain ⟨q5, h6, hF⟩ := hF
  obtain ⟨g7, e8, P⟩ := rX8_marchAt (r := q5.1) (w' := q5.2) P h6
  refine GR.bind e8 ?_
  dsimp only
  by_cases h10 : q1.1 = none
  · replace hF := el_n h10 hF
    refine GR.en h10 ?_
    obtain ⟨f1, f2⟩ := finW hF
    subst f1
    subst f2
    exact GR.ret P
  obtain ⟨p9, h10⟩ := Option.ne_none_iff_exists'.mp h10
  replace hF := el_s h10 hF
  refine GR.es h10 ?_
  by_cases h12 : q5.1 = none
  · replace hF := el_n h12 hF
    refine GR.en h12 ?_
    obtain ⟨f1, f2⟩ := finW hF
    subst f1
    subst f2
    exact GR.ret P
  obtain ⟨p11, h12⟩ := Option.ne_none_iff_exists'.mp h12
  replace hF := el_s h12 hF
  refine GR.es h12 ?_
  refine GR.bind (P.getRa (k := 8) h0 (by decide) (by decide) (by decide)) ?_
  replace hF := okb_some hF
  obtain ⟨h13, hF⟩ := hF
  refine GR.bind (P.dI (k := 8) (n := ((a1 * (8 : Int32)) + a2).toNatClampNeg) h0 (by decide) (by decide) (by decide) (by decide) h13 rfl) ?_
  by_cases c14 : (ha q5.2 a0 8 ((a1 * (8 : Int32)) + a2).toNatClampNeg) = 0
  · replace hF := ite_t c14 hF
    refine GR.t c14 ?_
    replace hF := ob_some hF
    obtain ⟨p15, h16, hF⟩ := hF
    refine GR.bind (P.getRo (k := 7) h0 (by decide) (by decide) (by decide) h16) ?_
    replace hF := ob_some hF
    obtain ⟨q17, h18, hF⟩ := hF
    obtain ⟨g19, e20, P⟩ := rX7_place (r := q17.1) (w' := q17.2) P h18
    refine GR.bind e20 ?_
    replace hF := ob_some hF
    obtain ⟨q21, h22, hF⟩ := hF
    obtain ⟨g23, e24, P⟩ := rX8_isAlwaysSeen (r := q21.1) (w' := q21.2) P h22
    refine GR.bind e24 ?_
    by_cases c25 : q21.1 = 0
    · replace hF := ite_t c25 hF
      refine GR.t c25 ?_
      exact rX8_bothOrders_67  h0 P hF
    replace hF := ite_f c25 hF
    refine GR.f c25 ?_
    exact rX8_bothOrders_67  h0 P hF
  replace hF := ite_f c14 hF
  refine GR.f c14 ?_
  refine GR.bind (P.getRa (k := 8) h0 (by decide) (by decide) (by decide)) ?_
  replace hF := okb_some hF
  obtain ⟨h26, hF⟩ := hF
  refine GR.bind (P.dI (k := 8) (n := ((a1 * (8 : Int32)) + a2).toNatClampNeg) h0 (by decide) (by decide) (by decide) (by decide) h26 rfl) ?_
  obtain ⟨f1, f2⟩ := finW hF
  subst f1
  subst f2
  exact GR.ret P
def FX8_isAsked (w : HS) (a0 : Nat) (a1 : Nat) (a2 : Int32) (a3 : Int32) : Option (Int32 × HS) :=
  okb (hc w a0 == 8) (if a3 = 0 then (some ((1 : Int32), w)) else
  (okb (hc w a1 == 1) (if (hi w a1 1) = 0 then (some ((1 : Int32), w)) else
  ((hp w a0 5).bind fun p4 =>
  (okb (hc w p4 == 3) ((FX1_aggressorOf w a1 a2 (hi w p4 0)).bind fun q7 =>
  ((hp q7.2 a0 5).bind fun p11 =>
  (okb (hc q7.2 p11 == 3) ((FX1_victimOf q7.2 a1 a2 (hi q7.2 p11 0)).bind fun q14 =>
  (if (q7.1 - q14.1) = (1 : Int32) then (some ((1 : Int32), q14.2)) else
  (if (q7.1 - q14.1) = (-1 : Int32) then (some ((1 : Int32), q14.2)) else
  (some ((0 : Int32), q14.2)))))))))))))
set_option maxHeartbeats 4000000 in
set_option maxRecDepth 100000 in
theorem rX8_isAsked {ar : Nat → Nat → Nat} {c0 : Nat → Nat} {sz : Nat} {g : PH} {w w' : HS} {a0 : Nat} {a1 : Nat} {a2 : Int32} {a3 : Int32} {r : Int32} (P : Rel ar c0 sz g w) (hF : FX8_isAsked w a0 a1 a2 a3 = some (r, w')) : GR ar c0 sz r w' (fX8_isAsked g a0 a1 a2 a3) := by
  unfold FX8_isAsked at hF
  unfold fX8_isAsked
  replace hF := okb_some hF
  obtain ⟨h0, hF⟩ := hF
  replace h0 := P.cls h0
  refine GR.ok (P.rO h0 (by decide)) ?_
  by_cases c1 : a3 = 0
  · replace hF := ite_t c1 hF
    refine GR.t c1 ?_
    obtain ⟨f1, f2⟩ := finW hF
    subst f1
    subst f2
    exact GR.ret P
  replace hF := ite_f c1 hF
  refine GR.f c1 ?_
  replace hF := okb_some hF
  obtain ⟨h2, hF⟩ := hF
  replace h2 := P.cls h2
  refine GR.bind (P.rI (k := 1) h2 (by decide) (by decide) (by decide)) ?_
  by_cases c3 : (hi w a1 1) = 0
  · replace hF := ite_t c3 hF
    refine GR.t c3 ?_
    obtain ⟨f1, f2⟩ := finW hF
    subst f1
    subst f2
    exact GR.ret P
  replace hF := ite_f c3 hF
  refine GR.f c3 ?_
  replace hF := ob_some hF
  obtain ⟨p4, h5, hF⟩ := hF
  refine GR.bind (P.getRo (k := 5) h0 (by decide) (by decide) (by decide) h5) ?_
  replace hF := okb_some hF
  obtain ⟨h6, hF⟩ := hF
  replace h6 := P.cls h6
  refine GR.bind (P.rI (k := 0) h6 (by decide) (by decide) (by decide)) ?_
  replace hF := ob_some hF
  obtain ⟨q7, h8, hF⟩ := hF
  obtain ⟨g9, e10, P⟩ := rX1_aggressorOf (r := q7.1) (w' := q7.2) P h8
  refine GR.bind e10 ?_
  replace hF := ob_some hF
  obtain ⟨p11, h12, hF⟩ := hF
  refine GR.bind (P.getRo (k := 5) h0 (by decide) (by decide) (by decide) h12) ?_
  replace hF := okb_some hF
  obtain ⟨h13, hF⟩ := hF
  replace h13 := P.cls h13
  refine GR.bind (P.rI (k := 0) h13 (by decide) (by decide) (by decide)) ?_
  replace hF := ob_some hF
  obtain ⟨q14, h15, hF⟩ := hF
  obtain ⟨g16, e17, P⟩ := rX1_victimOf (r := q14.1) (w' := q14.2) P h15
  refine GR.bind e17 ?_
  by_cases c18 : (q7.1 - q14.1) = (1 : Int32)
  · replace hF := ite_t c18 hF
    refine GR.t c18 ?_
    obtain ⟨f1, f2⟩ := finW hF
    subst f1
    subst f2
    exact GR.ret P
  replace hF := ite_f c18 hF
  refine GR.f c18 ?_
  by_cases c19 : (q7.1 - q14.1) = (-1 : Int32)
  · replace hF := ite_t c19 hF
    refine GR.t c19 ?_
    obtain ⟨f1, f2⟩ := finW hF
    subst f1
    subst f2
    exact GR.ret P
  replace hF := ite_f c19 hF
  refine GR.f c19 ?_
  obtain ⟨f1, f2⟩ := finW hF
  subst f1
  subst f2
  exact GR.ret P
def FX8_aim_59  (w : HS) (v0 : Nat) (v3 : Int32) (v4 : Int32) : Option (Unit × HS) :=
  (hp w v0 7).bind fun p1 =>
  ((hp w v0 5).bind fun p3 =>
  (okb (hc w p3 == 3) ((FX7_place w p1 (hi w p3 0) v4 v3).bind fun q6 =>
  (some ((), q6.2)))))
set_option maxHeartbeats 4000000 in
set_option maxRecDepth 100000 in
theorem rX8_aim_59 {ar : Nat → Nat → Nat} {c0 : Nat → Nat} {sz : Nat} {r : Unit} {w' : HS}   {g : PH} {w : HS} {v0 : Nat} {v3 : Int32} {v4 : Int32} (h0 : c0 v0 = 8) (P : Rel ar c0 sz g w) (hF : FX8_aim_59  w v0 v3 v4 = some (r, w')) : GR ar c0 sz r w' (fX8_aim_59  g v0 v3 v4) := by
  unfold FX8_aim_59 at hF
  unfold fX8_aim_59
  replace hF := ob_some hF
  obtain ⟨p1, h2, hF⟩ := hF
  refine GR.bind (P.getRo (k := 7) h0 (by decide) (by decide) (by decide) h2) ?_
  replace hF := ob_some hF
  obtain ⟨p3, h4, hF⟩ := hF
  refine GR.bind (P.getRo (k := 5) h0 (by decide) (by decide) (by decide) h4) ?_
  replace hF := okb_some hF
  obtain ⟨h5, hF⟩ := hF
  replace h5 := P.cls h5
  refine GR.bind (P.rI (k := 0) h5 (by decide) (by decide) (by decide)) ?_
  replace hF := ob_some hF
  obtain ⟨q6, h7, hF⟩ := hF
  obtain ⟨g8, e9, P⟩ := rX7_place (r := q6.1) (w' := q6.2) P h7
  refine GR.bind e9 ?_
  obtain ⟨f1, f2⟩ := finW hF
  subst f1
  subst f2
  exact GR.ret P
def FX8_aim_29  (w : HS) (v0 : Nat) (v1 : Nat) (v2 : Int32) (v3 : Int32) (s0 : Int32) : Option (Unit × HS) :=
  okb (hc w v1 == 1) (if (hi w v1 1) = 0 then (FX8_aim_59 w v0 v3 s0) else
  ((hp w v0 5).bind fun p3 =>
  ((hp w v0 5).bind fun p5 =>
  (okb (hc w p5 == 3) ((FX1_aggressorOf w v1 v2 (hi w p5 0)).bind fun q8 =>
  ((FX3_addressOf q8.2 p3 q8.1).bind fun q12 =>
  (FX8_aim_59 q12.2 v0 v3 q12.1)))))))
set_option maxHeartbeats 4000000 in
set_option maxRecDepth 100000 in
theorem rX8_aim_29 {ar : Nat → Nat → Nat} {c0 : Nat → Nat} {sz : Nat} {r : Unit} {w' : HS}   {g : PH} {w : HS} {v0 : Nat} {v1 : Nat} {v2 : Int32} {v3 : Int32} {s0 : Int32} (h0 : c0 v0 = 8) (P : Rel ar c0 sz g w) (hF : FX8_aim_29  w v0 v1 v2 v3 s0 = some (r, w')) : GR ar c0 sz r w' (fX8_aim_29  g v0 v1 v2 v3 s0) := by
  unfold FX8_aim_29 at hF
  unfold fX8_aim_29
  replace hF := okb_some hF
  obtain ⟨h1, hF⟩ := hF
  replace h1 := P.cls h1
  refine GR.bind (P.rI (k := 1) h1 (by decide) (by decide) (by decide)) ?_
  by_cases c2 : (hi w v1 1) = 0
  · replace hF := ite_t c2 hF
    refine GR.t c2 ?_
    exact rX8_aim_59  h0 P hF
  replace hF := ite_f c2 hF
  refine GR.f c2 ?_
  replace hF := ob_some hF
  obtain ⟨p3, h4, hF⟩ := hF
  refine GR.bind (P.getRo (k := 5) h0 (by decide) (by decide) (by decide) h4) ?_
  replace hF := ob_some hF
  obtain ⟨p5, h6, hF⟩ := hF
  refine GR.bind (P.getRo (k := 5) h0 (by decide) (by decide) (by decide) h6) ?_
  replace hF := okb_some hF
  obtain ⟨h7, hF⟩ := hF
  replace h7 := P.cls h7
  refine GR.bind (P.rI (k := 0) h7 (by decide) (by decide) (by decide)) ?_
  replace hF := ob_some hF
  obtain ⟨q8, h9, hF⟩ := hF
  obtain ⟨g10, e11, P⟩ := rX1_aggressorOf (r := q8.1) (w' := q8.2) P h9
  refine GR.bind e11 ?_
  replace hF := ob_some hF
  obtain ⟨q12, h13, hF⟩ := hF
  obtain ⟨g14, e15, P⟩ := rX3_addressOf (r := q12.1) (w' := q12.2) P h13
  refine GR.bind e15 ?_
  exact rX8_aim_59  h0 P hF
def FX8_aim (w : HS) (a0 : Nat) (a1 : Nat) (a2 : Int32) : Option (Unit × HS) :=
  okb (hc w a0 == 8) ((hp w a0 5).bind fun p1 =>
  ((hp w a0 5).bind fun p3 =>
  (okb (hc w p3 == 3) ((FX1_victimOf w a1 a2 (hi w p3 0)).bind fun q6 =>
  ((FX3_addressOf q6.2 p1 q6.1).bind fun q10 =>
  (if q10.1 = 0 then (FX8_aim_29 q10.2 a0 a1 a2 q10.1 (1 : Int32)) else
  (FX8_aim_29 q10.2 a0 a1 a2 q10.1 (0 : Int32))))))))
set_option maxHeartbeats 4000000 in
set_option maxRecDepth 100000 in
theorem rX8_aim {ar : Nat → Nat → Nat} {c0 : Nat → Nat} {sz : Nat} {g : PH} {w w' : HS} {a0 : Nat} {a1 : Nat} {a2 : Int32} {r : Unit} (P : Rel ar c0 sz g w) (hF : FX8_aim w a0 a1 a2 = some (r, w')) : GR ar c0 sz r w' (fX8_aim g a0 a1 a2) := by
  unfold FX8_aim at hF
  unfold fX8_aim
  replace hF := okb_some hF
  obtain ⟨h0, hF⟩ := hF
  replace h0 := P.cls h0
  refine GR.ok (P.rO h0 (by decide)) ?_
  replace hF := ob_some hF
  obtain ⟨p1, h2, hF⟩ := hF
  refine GR.bind (P.getRo (k := 5) h0 (by decide) (by decide) (by decide) h2) ?_
  replace hF := ob_some hF
  obtain ⟨p3, h4, hF⟩ := hF
  refine GR.bind (P.getRo (k := 5) h0 (by decide) (by decide) (by decide) h4) ?_
  replace hF := okb_some hF
  obtain ⟨h5, hF⟩ := hF
  replace h5 := P.cls h5
  refine GR.bind (P.rI (k := 0) h5 (by decide) (by decide) (by decide)) ?_
  replace hF := ob_some hF
  obtain ⟨q6, h7, hF⟩ := hF
  obtain ⟨g8, e9, P⟩ := rX1_victimOf (r := q6.1) (w' := q6.2) P h7
  refine GR.bind e9 ?_
  replace hF := ob_some hF
  obtain ⟨q10, h11, hF⟩ := hF
  obtain ⟨g12, e13, P⟩ := rX3_addressOf (r := q10.1) (w' := q10.2) P h11
  refine GR.bind e13 ?_
  by_cases c14 : q10.1 = 0
  · replace hF := ite_t c14 hF
    refine GR.t c14 ?_
    exact rX8_aim_29  h0 P hF
  replace hF := ite_f c14 hF
  refine GR.f c14 ?_
  exact rX8_aim_29  h0 P hF
def FX8_isCaught_29  (w : HS) (s0 : Int32) (s1 : Int32) : Option (Int32 × HS) :=
  if (s1 &&& s0) = 0 then (some ((0 : Int32), w)) else
  (some ((1 : Int32), w))
set_option maxHeartbeats 4000000 in
set_option maxRecDepth 100000 in
theorem rX8_isCaught_29 {ar : Nat → Nat → Nat} {c0 : Nat → Nat} {sz : Nat} {r : Int32} {w' : HS}   {g : PH} {w : HS} {s0 : Int32} {s1 : Int32} (P : Rel ar c0 sz g w) (hF : FX8_isCaught_29  w s0 s1 = some (r, w')) : GR ar c0 sz r w' (fX8_isCaught_29  g s0 s1) := by
  unfold FX8_isCaught_29 at hF
  unfold fX8_isCaught_29
  by_cases c1 : (s1 &&& s0) = 0
  · replace hF := ite_t c1 hF
    refine GR.t c1 ?_
    obtain ⟨f1, f2⟩ := finW hF
    subst f1
    subst f2
    exact GR.ret P
  replace hF := ite_f c1 hF
  refine GR.f c1 ?_
  obtain ⟨f1, f2⟩ := finW hF
  subst f1
  subst f2
  exact GR.ret P
def FX8_isCaught (w : HS) (a0 : Nat) (a1 : Nat) (a2 : Int32) (a3 : Int32) : Option (Int32 × HS) :=
  okb (hc w a0 == 8) ((FX8_aim w a0 a1 a2).bind fun q1 =>
  ((hp q1.2 a0 7).bind fun p5 =>
  (okb (hc q1.2 p5 == 7) ((hp q1.2 a0 7).bind fun p8 =>
  (okb (hc q1.2 p8 == 7) (if (hi q1.2 p8 1) ≤ (hi q1.2 p5 0) then (FX8_isCaught_29 q1.2 (2 : Int32) a3) else
  (FX8_isCaught_29 q1.2 (1 : Int32) a3)))))))
set_option maxHeartbeats 4000000 in
set_option maxRecDepth 100000 in
theorem rX8_isCaught {ar : Nat → Nat → Nat} {c0 : Nat → Nat} {sz : Nat} {g : PH} {w w' : HS} {a0 : Nat} {a1 : Nat} {a2 : Int32} {a3 : Int32} {r : Int32} (P : Rel ar c0 sz g w) (hF : FX8_isCaught w a0 a1 a2 a3 = some (r, w')) : GR ar c0 sz r w' (fX8_isCaught g a0 a1 a2 a3) := by
  unfold FX8_isCaught at hF
  unfold fX8_isCaught
  replace hF := okb_some hF
  obtain ⟨h0, hF⟩ := hF
  replace h0 := P.cls h0
  refine GR.ok (P.rO h0 (by decide)) ?_
  replace hF := ob_some hF
  obtain ⟨q1, h2, hF⟩ := hF
  obtain ⟨g3, e4, P⟩ := rX8_aim (r := q1.1) (w' := q1.2) P h2
  refine GR.bind e4 ?_
  replace hF := ob_some hF
  obtain ⟨p5, h6, hF⟩ := hF
  refine GR.bind (P.getRo (k := 7) h0 (by decide) (by decide) (by decide) h6) ?_
  replace hF := okb_some hF
  obtain ⟨h7, hF⟩ := hF
  replace h7 := P.cls h7
  refine GR.bind (P.rI (k := 0) h7 (by decide) (by decide) (by decide)) ?_
  replace hF := ob_some hF
  obtain ⟨p8, h9, hF⟩ := hF
  refine GR.bind (P.getRo (k := 7) h0 (by decide) (by decide) (by decide) h9) ?_
  replace hF := okb_some hF
  obtain ⟨h10, hF⟩ := hF
  replace h10 := P.cls h10
  refine GR.bind (P.rI (k := 1) h10 (by decide) (by decide) (by decide)) ?_
  by_cases c11 : (hi q1.2 p8 1) ≤ (hi q1.2 p5 0)
  · replace hF := ite_t c11 hF
    refine GR.t c11 ?_
    exact rX8_isCaught_29  P hF
  replace hF := ite_f c11 hF
  refine GR.f c11 ?_
  exact rX8_isCaught_29  P hF
def FX8_caught_81 (k36 : HS → Nat → Int32 → Nat → Int32 → Int32 → Int32 → Option (Int32 × HS)) (w : HS) (v0 : Nat) (v3 : Int32) (v4 : Nat) (v5 : Int32) (v6 : Int32) (v7 : Int32) : Option (Int32 × HS) :=
  k36 w v0 v3 v4 v5 v6 (v7 + (1 : Int32))
set_option maxHeartbeats 4000000 in
set_option maxRecDepth 100000 in
theorem rX8_caught_81 {ar : Nat → Nat → Nat} {c0 : Nat → Nat} {sz : Nat} {r : Int32} {w' : HS} {k36 : HS → Nat → Int32 → Nat → Int32 → Int32 → Int32 → Option (Int32 × HS)} {j36 : PH → Nat → Int32 → Nat → Int32 → Int32 → Int32 → Option (Int32 × PH)} (hk36 : ∀ (g : PH) (w : HS) (v0 : Nat) (v3 : Int32) (v4 : Nat) (v5 : Int32) (v6 : Int32) (v7 : Int32), c0 v0 = 8 → Rel ar c0 sz g w → k36 w v0 v3 v4 v5 v6 v7 = some (r, w') → GR ar c0 sz r w' (j36 g v0 v3 v4 v5 v6 v7)) {g : PH} {w : HS} {v0 : Nat} {v3 : Int32} {v4 : Nat} {v5 : Int32} {v6 : Int32} {v7 : Int32} (h0 : c0 v0 = 8) (P : Rel ar c0 sz g w) (hF : FX8_caught_81 k36 w v0 v3 v4 v5 v6 v7 = some (r, w')) : GR ar c0 sz r w' (fX8_caught_81 j36 g v0 v3 v4 v5 v6 v7) := by
  unfold FX8_caught_81 at hF
  unfold fX8_caught_81
  exact hk36 _ _ _ _ _ _ _ _ h0 P hF
def FX8_caught_36  : Nat → HS → Nat → Int32 → Nat → Int32 → Int32 → Int32 → Option (Int32 × HS)
  | 0, _, _, _, _, _, _, _ => none
  | n + 1, w, v0, v3, v4, v5, v6, v7 =>
  (hp w v0 5).bind fun p1 =>
  (okb (hc w p1 == 3) ((FX1_placements w v4 (hi w p1 0)).bind fun q4 =>
  (if q4.1 ≤ v7 then (some (v6, q4.2)) else
  ((FX8_isAsked q4.2 v0 v4 v7 v3).bind fun q9 =>
  (if q9.1 = 0 then (FX8_caught_81 (FX8_caught_36 n) q9.2 v0 v3 v4 v5 v6 v7) else
  ((FX8_isCaught q9.2 v0 v4 v7 v5).bind fun q14 =>
  (if q14.1 = 0 then (FX8_caught_81 (FX8_caught_36 n) q14.2 v0 v3 v4 v5 v6 v7) else
  (FX8_caught_81 (FX8_caught_36 n) q14.2 v0 v3 v4 v5 (v6 + (1 : Int32)) v7))))))))
set_option maxHeartbeats 4000000 in
set_option maxRecDepth 100000 in
theorem rX8_caught_36 {ar : Nat → Nat → Nat} {c0 : Nat → Nat} {sz : Nat} {r : Int32} {w' : HS}   : ∀ (n : Nat) (g : PH) (w : HS) (v0 : Nat) (v3 : Int32) (v4 : Nat) (v5 : Int32) (v6 : Int32) (v7 : Int32), c0 v0 = 8 → Rel ar c0 sz g w → FX8_caught_36  n w v0 v3 v4 v5 v6 v7 = some (r, w') → GR ar c0 sz r w' (fX8_caught_36  n g v0 v3 v4 v5 v6 v7) := by
  intro n
  induction n with
  | zero =>
    intro g w v0 v3 v4 v5 v6 v7 h0 P hF
    rw [FX8_caught_36] at hF
    cases hF
  | succ n ih =>
    intro g w v0 v3 v4 v5 v6 v7 h0 P hF
    rw [FX8_caught_36] at hF
    rw [fX8_caught_36]
    replace hF := ob_some hF
    obtain ⟨p1, h2, hF⟩ := hF
    refine GR.bind (P.getRo (k := 5) h0 (by decide) (by decide) (by decide) h2) ?_
    replace hF := okb_some hF
    obtain ⟨h3, hF⟩ := hF
    replace h3 := P.cls h3
    refine GR.bind (P.rI (k := 0) h3 (by decide) (by decide) (by decide)) ?_
    replace hF := ob_some hF
    obtain ⟨q4, h5, hF⟩ := hF
    obtain ⟨g6, e7, P⟩ := rX1_placements (r := q4.1) (w' := q4.2) P h5
    refine GR.bind e7 ?_
    by_cases c8 : q4.1 ≤ v7
    · replace hF := ite_t c8 hF
      refine GR.t c8 ?_
      obtain ⟨f1, f2⟩ := finW hF
      subst f1
      subst f2
      exact GR.ret P
    replace hF := ite_f c8 hF
    refine GR.f c8 ?_
    replace hF := ob_some hF
    obtain ⟨q9, h10, hF⟩ := hF
    obtain ⟨g11, e12, P⟩ := rX8_isAsked (r := q9.1) (w' := q9.2) P h10
    refine GR.bind e12 ?_
    by_cases c13 : q9.1 = 0
    · replace hF := ite_t c13 hF
      refine GR.t c13 ?_
      exact rX8_caught_81 ih h0 P hF
    replace hF := ite_f c13 hF
    refine GR.f c13 ?_
    replace hF := ob_some hF
    obtain ⟨q14, h15, hF⟩ := hF
    obtain ⟨g16, e17, P⟩ := rX8_isCaught (r := q14.1) (w' := q14.2) P h15
    refine GR.bind e17 ?_
    by_cases c18 : q14.1 = 0
    · replace hF := ite_t c18 hF
      refine GR.t c18 ?_
      exact rX8_caught_81 ih h0 P hF
    replace hF := ite_f c18 hF
    refine GR.f c18 ?_
    exact rX8_caught_81 ih h0 P hF
def FX8_caught (w : HS) (a0 : Nat) (a1 : Int32) (a2 : Int32) (a3 : Int32) : Option (Int32 × HS) :=
  okb (hc w a0 == 8) ((FX8_kindAt w a0 a2).bind fun q1 =>
  (q1.1.elim (some ((-1 : Int32), q1.2)) (fun p5 =>
  (FX8_marchAt q1.2 a0 a1).bind fun q7 =>
  (q7.1.elim (some ((-1 : Int32), q7.2)) (fun p11 =>
  (FX8_bothOrders q7.2 a0 a1 a2).bind fun q13 =>
  (FX8_caught_36 FUEL q13.2 a0 a3 p5 q13.1 (0 : Int32) (0 : Int32)))))))
set_option maxHeartbeats 4000000 in
set_option maxRecDepth 100000 in
theorem rX8_caught {ar : Nat → Nat → Nat} {c0 : Nat → Nat} {sz : Nat} {g : PH} {w w' : HS} {a0 : Nat} {a1 : Int32} {a2 : Int32} {a3 : Int32} {r : Int32} (P : Rel ar c0 sz g w) (hF : FX8_caught w a0 a1 a2 a3 = some (r, w')) : GR ar c0 sz r w' (fX8_caught g a0 a1 a2 a3) := by
  unfold FX8_caught at hF
  unfold fX8_caught
  replace hF := okb_some hF
  obtain ⟨h0, hF⟩ := hF
  replace h0 := P.cls h0
  refine GR.ok (P.rO h0 (by decide)) ?_
  replace hF := ob_some hF
  obtain ⟨q1, h2, hF⟩ := hF
  obtain ⟨g3, e4, P⟩ := rX8_kindAt (r := q1.1) (w' := q1.2) P h2
  refine GR.bind e4 ?_
  dsimp only
  by_cases h6 : q1.1 = none
  · replace hF := el_n h6 hF
    refine GR.en h6 ?_
    obtain ⟨f1, f2⟩ := finW hF
    subst f1
    subst f2
    exact GR.ret P
  obtain ⟨p5, h6⟩ := Option.ne_none_iff_exists'.mp h6
  replace hF := el_s h6 hF
  refine GR.es h6 ?_
  replace hF := ob_some hF
  obtain ⟨q7, h8, hF⟩ := hF
  obtain ⟨g9, e10, P⟩ := rX8_marchAt (r := q7.1) (w' := q7.2) P h8
  refine GR.bind e10 ?_
  dsimp only
  by_cases h12 : q7.1 = none
  · replace hF := el_n h12 hF
    refine GR.en h12 ?_
    obtain ⟨f1, f2⟩ := finW hF
    subst f1
    subst f2
    exact GR.ret P
  obtain ⟨p11, h12⟩ := Option.ne_none_iff_exists'.mp h12
  replace hF := el_s h12 hF
  refine GR.es h12 ?_
  replace hF := ob_some hF
  obtain ⟨q13, h14, hF⟩ := hF
  obtain ⟨g15, e16, P⟩ := rX8_bothOrders (r := q13.1) (w' := q13.2) P h14
  refine GR.bind e16 ?_
  exact rX8_caught_36  _ _ _ _ _ _ _ _ _ h0 P hF
def FX8_stateIn (w : HS) (a0 : Nat) (a1 : Nat) (a2 : Int32) (a3 : Int32) : Option (Int32 × HS) :=
  okb (hc w a0 == 8) ((hp w a0 5).bind fun p1 =>
  (okb (hc w p1 == 3) ((FX1_victimOf w a1 a2 (hi w p1 0)).bind fun q4 =>
  (okb (hc q4.2 a1 == 1) (if (hi q4.2 a1 1) = 0 then (some (((a3 >>> (q4.1 &&& 31)) &&& (1 : Int32)), q4.2)) else
  ((hp q4.2 a0 5).bind fun p10 =>
  (okb (hc q4.2 p10 == 3) ((FX1_aggressorOf q4.2 a1 a2 (hi q4.2 p10 0)).bind fun q13 =>
  (some ((((a3 >>> (q4.1 &&& 31)) &&& (1 : Int32)) ||| (((a3 >>> (q13.1 &&& 31)) &&& (1 : Int32)) <<< ((1 : Int32) &&& 31))), q13.2))))))))))
set_option maxHeartbeats 4000000 in
set_option maxRecDepth 100000 in
theorem rX8_stateIn {ar : Nat → Nat → Nat} {c0 : Nat → Nat} {sz : Nat} {g : PH} {w w' : HS} {a0 : Nat} {a1 : Nat} {a2 : Int32} {a3 : Int32} {r : Int32} (P : Rel ar c0 sz g w) (hF : FX8_stateIn w a0 a1 a2 a3 = some (r, w')) : GR ar c0 sz r w' (fX8_stateIn g a0 a1 a2 a3) := by
  unfold FX8_stateIn at hF
  unfold fX8_stateIn
  replace hF := okb_some hF
  obtain ⟨h0, hF⟩ := hF
  replace h0 := P.cls h0
  refine GR.ok (P.rO h0 (by decide)) ?_
  replace hF := ob_some hF
  obtain ⟨p1, h2, hF⟩ := hF
  refine GR.bind (P.getRo (k := 5) h0 (by decide) (by decide) (by decide) h2) ?_
  replace hF := okb_some hF
  obtain ⟨h3, hF⟩ := hF
  replace h3 := P.cls h3
  refine GR.bind (P.rI (k := 0) h3 (by decide) (by decide) (by decide)) ?_
  replace hF := ob_some hF
  obtain ⟨q4, h5, hF⟩ := hF
  obtain ⟨g6, e7, P⟩ := rX1_victimOf (r := q4.1) (w' := q4.2) P h5
  refine GR.bind e7 ?_
  replace hF := okb_some hF
  obtain ⟨h8, hF⟩ := hF
  replace h8 := P.cls h8
  refine GR.bind (P.rI (k := 1) h8 (by decide) (by decide) (by decide)) ?_
  by_cases c9 : (hi q4.2 a1 1) = 0
  · replace hF := ite_t c9 hF
    refine GR.t c9 ?_
    obtain ⟨f1, f2⟩ := finW hF
    subst f1
    subst f2
    exact GR.ret P
  replace hF := ite_f c9 hF
  refine GR.f c9 ?_
  replace hF := ob_some hF
  obtain ⟨p10, h11, hF⟩ := hF
  refine GR.bind (P.getRo (k := 5) h0 (by decide) (by decide) (by decide) h11) ?_
  replace hF := okb_some hF
  obtain ⟨h12, hF⟩ := hF
  replace h12 := P.cls h12
  refine GR.bind (P.rI (k := 0) h12 (by decide) (by decide) (by decide)) ?_
  replace hF := ob_some hF
  obtain ⟨q13, h14, hF⟩ := hF
  obtain ⟨g15, e16, P⟩ := rX1_aggressorOf (r := q13.1) (w' := q13.2) P h14
  refine GR.bind e16 ?_
  obtain ⟨f1, f2⟩ := finW hF
  subst f1
  subst f2
  exact GR.ret P
def FX8_ofEscape_129 (k76 : HS → Nat → Nat → Nat → Int32 → Int32 → Int32 → Int32 → Option (Int32 × HS)) (w : HS) (v0 : Nat) (v1 : Nat) (v2 : Nat) (v3 : Int32) (v4 : Int32) (v7 : Int32) (v8 : Int32) : Option (Int32 × HS) :=
  k76 w v0 v1 v2 v3 v4 v7 (v8 + (1 : Int32))
set_option maxHeartbeats 4000000 in
set_option maxRecDepth 100000 in
theorem rX8_ofEscape_129 {ar : Nat → Nat → Nat} {c0 : Nat → Nat} {sz : Nat} {r : Int32} {w' : HS} {k76 : HS → Nat → Nat → Nat → Int32 → Int32 → Int32 → Int32 → Option (Int32 × HS)} {j76 : PH → Nat → Nat → Nat → Int32 → Int32 → Int32 → Int32 → Option (Int32 × PH)} (hk76 : ∀ (g : PH) (w : HS) (v0 : Nat) (v1 : Nat) (v2 : Nat) (v3 : Int32) (v4 : Int32) (v7 : Int32) (v8 : Int32), c0 v0 = 8 → Rel ar c0 sz g w → k76 w v0 v1 v2 v3 v4 v7 v8 = some (r, w') → GR ar c0 sz r w' (j76 g v0 v1 v2 v3 v4 v7 v8)) {g : PH} {w : HS} {v0 : Nat} {v1 : Nat} {v2 : Nat} {v3 : Int32} {v4 : Int32} {v7 : Int32} {v8 : Int32} (h0 : c0 v0 = 8) (P : Rel ar c0 sz g w) (hF : FX8_ofEscape_129 k76 w v0 v1 v2 v3 v4 v7 v8 = some (r, w')) : GR ar c0 sz r w' (fX8_ofEscape_129 j76 g v0 v1 v2 v3 v4 v7 v8) := by
  unfold FX8_ofEscape_129 at hF
  unfold fX8_ofEscape_129
  exact hk76 _ _ _ _ _ _ _ _ _ h0 P hF
def FX8_ofEscape_76  : Nat → HS → Nat → Nat → Nat → Int32 → Int32 → Int32 → Int32 → Option (Int32 × HS)
  | 0, _, _, _, _, _, _, _, _ => none
  | n + 1, w, v0, v1, v2, v3, v4, v7, v8 =>
  if v7 < v8 then (some ((-2 : Int32), w)) else
  (if (v8 &&& (v7 ^^^ (-1 : Int32))) = 0 then ((FX8_stateIn w v0 v1 v3 v8).bind fun q3 =>
  ((FX8_firstBlindChoice q3.2 v0 v1 v2 q3.1).bind fun q7 =>
  (if q7.1 = (-1 : Int32) then (FX8_ofEscape_129 (FX8_ofEscape_76 n) q7.2 v0 v1 v2 v3 v4 v7 v8) else
  (if v4 = (2 : Int32) then (some (v8, q7.2)) else
  (some (q7.1, q7.2)))))) else
  (FX8_ofEscape_129 (FX8_ofEscape_76 n) w v0 v1 v2 v3 v4 v7 v8))
set_option maxHeartbeats 4000000 in
set_option maxRecDepth 100000 in
theorem rX8_ofEscape_76 {ar : Nat → Nat → Nat} {c0 : Nat → Nat} {sz : Nat} {r : Int32} {w' : HS}   : ∀ (n : Nat) (g : PH) (w : HS) (v0 : Nat) (v1 : Nat) (v2 : Nat) (v3 : Int32) (v4 : Int32) (v7 : Int32) (v8 : Int32), c0 v0 = 8 → Rel ar c0 sz g w → FX8_ofEscape_76  n w v0 v1 v2 v3 v4 v7 v8 = some (r, w') → GR ar c0 sz r w' (fX8_ofEscape_76  n g v0 v1 v2 v3 v4 v7 v8) := by
  intro n
  induction n with
  | zero =>
    intro g w v0 v1 v2 v3 v4 v7 v8 h0 P hF
    rw [FX8_ofEscape_76] at hF
    cases hF
  | succ n ih =>
    intro g w v0 v1 v2 v3 v4 v7 v8 h0 P hF
    rw [FX8_ofEscape_76] at hF
    rw [fX8_ofEscape_76]
    by_cases c1 : v7 < v8
    · replace hF := ite_t c1 hF
      refine GR.t c1 ?_
      obtain ⟨f1, f2⟩ := finW hF
      subst f1
      subst f2
      exact GR.ret P
    replace hF := ite_f c1 hF
    refine GR.f c1 ?_
    by_cases c2 : (v8 &&& (v7 ^^^ (-1 : Int32))) = 0
    · replace hF := ite_t c2 hF
      refine GR.t c2 ?_
      replace hF := ob_some hF
      obtain ⟨q3, h4, hF⟩ := hF
      obtain ⟨g5, e6, P⟩ := rX8_stateIn (r := q3.1) (w' := q3.2) P h4
      refine GR.bind e6 ?_
      replace hF := ob_some hF
      obtain ⟨q7, h8, hF⟩ := hF
      obtain ⟨g9, e10, P⟩ := rX8_firstBlindChoice (r := q7.1) (w' := q7.2) P h8
      refine GR.bind e10 ?_
      by_cases c11 : q7.1 = (-1 : Int32)
      · replace hF := ite_t c11 hF
        refine GR.t c11 ?_
        exact rX8_ofEscape_129 ih h0 P hF
      replace hF := ite_f c11 hF
      refine GR.f c11 ?_
      by_cases c12 : v4 = (2 : Int32)
      · replace hF := ite_t c12 hF
        refine GR.t c12 ?_
        obtain ⟨f1, f2⟩ := finW hF
        subst f1
        subst f2
        exact GR.ret P
      replace hF := ite_f c12 hF
      refine GR.f c12 ?_
      obtain ⟨f1, f2⟩ := finW hF
      subst f1
      subst f2
      exact GR.ret P
    replace hF := ite_f c2 hF
    refine GR.f c2 ?_
    exact rX8_ofEscape_129 ih h0 P hF
def FX8_ofEscape_70  (w : HS) (v0 : Nat) (v1 : Nat) (v2 : Nat) (v3 : Int32) (v4 : Int32) (s0 : Int32) (s1 : Int32) : Option (Int32 × HS) :=
  FX8_ofEscape_76 FUEL w v0 v1 v2 v3 v4 (s1 ||| s0) (0 : Int32)
set_option maxHeartbeats 4000000 in
set_option maxRecDepth 100000 in
theorem rX8_ofEscape_70 {ar : Nat → Nat → Nat} {c0 : Nat → Nat} {sz : Nat} {r : Int32} {w' : HS}   {g : PH} {w : HS} {v0 : Nat} {v1 : Nat} {v2 : Nat} {v3 : Int32} {v4 : Int32} {s0 : Int32} {s1 : Int32} (h0 : c0 v0 = 8) (P : Rel ar c0 sz g w) (hF : FX8_ofEscape_70  w v0 v1 v2 v3 v4 s0 s1 = some (r, w')) : GR ar c0 sz r w' (fX8_ofEscape_70  g v0 v1 v2 v3 v4 s0 s1) := by
  unfold FX8_ofEscape_70 at hF
  unfold fX8_ofEscape_70
  exact rX8_ofEscape_76  _ _ _ _ _ _ _ _ _ _ h0 P hF
def FX8_ofEscape (w : HS) (a0 : Nat) (a1 : Nat) (a2 : Nat) (a3 : Int32) (a4 : Int32) : Option (Int32 × HS) :=
  okb (hc w a0 == 8) ((hp w a0 5).bind fun p1 =>
  (okb (hc w p1 == 3) ((FX1_aggressorOf w a1 a3 (hi w p1 0)).bind fun q4 =>
  ((hp q4.2 a0 5).bind fun p8 =>
  (okb (hc q4.2 p8 == 3) ((FX1_victimOf q4.2 a1 a3 (hi q4.2 p8 0)).bind fun q11 =>
  (if a4 = 0 then (some (q11.1, q11.2)) else
  (if a4 = (1 : Int32) then (some (q4.1, q11.2)) else
  ((FX8_aim q11.2 a0 a1 a3).bind fun q17 =>
  (okb (hc q17.2 a1 == 1) (if (hi q17.2 a1 1) = 0 then (FX8_ofEscape_70 q17.2 a0 a1 a2 a3 a4 (0 : Int32) ((1 : Int32) <<< (q11.1 &&& 31))) else
  (FX8_ofEscape_70 q17.2 a0 a1 a2 a3 a4 ((1 : Int32) <<< (q4.1 &&& 31)) ((1 : Int32) <<< (q11.1 &&& 31))))))))))))))
set_option maxHeartbeats 4000000 in
set_option maxRecDepth 100000 in
theorem rX8_ofEscape {ar : Nat → Nat → Nat} {c0 : Nat → Nat} {sz : Nat} {g : PH} {w w' : HS} {a0 : Nat} {a1 : Nat} {a2 : Nat} {a3 : Int32} {a4 : Int32} {r : Int32} (P : Rel ar c0 sz g w) (hF : FX8_ofEscape w a0 a1 a2 a3 a4 = some (r, w')) : GR ar c0 sz r w' (fX8_ofEscape g a0 a1 a2 a3 a4) := by
  unfold FX8_ofEscape at hF
  unfold fX8_ofEscape
  replace hF := okb_some hF
  obtain ⟨h0, hF⟩ := hF
  replace h0 := P.cls h0
  refine GR.ok (P.rO h0 (by decide)) ?_
  replace hF := ob_some hF
  obtain ⟨p1, h2, hF⟩ := hF
  refine GR.bind (P.getRo (k := 5) h0 (by decide) (by decide) (by decide) h2) ?_
  replace hF := okb_some hF
  obtain ⟨h3, hF⟩ := hF
  replace h3 := P.cls h3
  refine GR.bind (P.rI (k := 0) h3 (by decide) (by decide) (by decide)) ?_
  replace hF := ob_some hF
  obtain ⟨q4, h5, hF⟩ := hF
  obtain ⟨g6, e7, P⟩ := rX1_aggressorOf (r := q4.1) (w' := q4.2) P h5
  refine GR.bind e7 ?_
  replace hF := ob_some hF
  obtain ⟨p8, h9, hF⟩ := hF
  refine GR.bind (P.getRo (k := 5) h0 (by decide) (by decide) (by decide) h9) ?_
  replace hF := okb_some hF
  obtain ⟨h10, hF⟩ := hF
  replace h10 := P.cls h10
  refine GR.bind (P.rI (k := 0) h10 (by decide) (by decide) (by decide)) ?_
  replace hF := ob_some hF
  obtain ⟨q11, h12, hF⟩ := hF
  obtain ⟨g13, e14, P⟩ := rX1_victimOf (r := q11.1) (w' := q11.2) P h12
  refine GR.bind e14 ?_
  by_cases c15 : a4 = 0
  · replace hF := ite_t c15 hF
    refine GR.t c15 ?_
    obtain ⟨f1, f2⟩ := finW hF
    subst f1
    subst f2
    exact GR.ret P
  replace hF := ite_f c15 hF
  refine GR.f c15 ?_
  by_cases c16 : a4 = (1 : Int32)
  · replace hF := ite_t c16 hF
    refine GR.t c16 ?_
    obtain ⟨f1, f2⟩ := finW hF
    subst f1
    subst f2
    exact GR.ret P
  replace hF := ite_f c16 hF
  refine GR.f c16 ?_
  replace hF := ob_some hF
  obtain ⟨q17, h18, hF⟩ := hF
  obtain ⟨g19, e20, P⟩ := rX8_aim (r := q17.1) (w' := q17.2) P h18
  refine GR.bind e20 ?_
  replace hF := okb_some hF
  obtain ⟨h21, hF⟩ := hF
  replace h21 := P.cls h21
  refine GR.bind (P.rI (k := 1) h21 (by decide) (by decide) (by decide)) ?_
  by_cases c22 : (hi q17.2 a1 1) = 0
  · replace hF := ite_t c22 hF
    refine GR.t c22 ?_
    exact rX8_ofEscape_70  h0 P hF
  replace hF := ite_f c22 hF
  refine GR.f c22 ?_
  exact rX8_ofEscape_70  h0 P hF
def FX8_escape_103 (k48 : HS → Nat → Int32 → Int32 → Nat → Nat → Int32 → Int32 → Option (Int32 × HS)) (w : HS) (v0 : Nat) (v3 : Int32) (v4 : Int32) (v5 : Nat) (v6 : Nat) (v7 : Int32) (v8 : Int32) : Option (Int32 × HS) :=
  k48 w v0 v3 v4 v5 v6 v7 (v8 + (1 : Int32))
set_option maxHeartbeats 4000000 in
set_option maxRecDepth 100000 in
theorem rX8_escape_103 {ar : Nat → Nat → Nat} {c0 : Nat → Nat} {sz : Nat} {r : Int32} {w' : HS} {k48 : HS → Nat → Int32 → Int32 → Nat → Nat → Int32 → Int32 → Option (Int32 × HS)} {j48 : PH → Nat → Int32 → Int32 → Nat → Nat → Int32 → Int32 → Option (Int32 × PH)} (hk48 : ∀ (g : PH) (w : HS) (v0 : Nat) (v3 : Int32) (v4 : Int32) (v5 : Nat) (v6 : Nat) (v7 : Int32) (v8 : Int32), c0 v0 = 8 → Rel ar c0 sz g w → k48 w v0 v3 v4 v5 v6 v7 v8 = some (r, w') → GR ar c0 sz r w' (j48 g v0 v3 v4 v5 v6 v7 v8)) {g : PH} {w : HS} {v0 : Nat} {v3 : Int32} {v4 : Int32} {v5 : Nat} {v6 : Nat} {v7 : Int32} {v8 : Int32} (h0 : c0 v0 = 8) (P : Rel ar c0 sz g w) (hF : FX8_escape_103 k48 w v0 v3 v4 v5 v6 v7 v8 = some (r, w')) : GR ar c0 sz r w' (fX8_escape_103 j48 g v0 v3 v4 v5 v6 v7 v8) := by
  unfold FX8_escape_103 at hF
  unfold fX8_escape_103
  exact hk48 _ _ _ _ _ _ _ _ _ h0 P hF
def FX8_escape_48  : Nat → HS → Nat → Int32 → Int32 → Nat → Nat → Int32 → Int32 → Option (Int32 × HS)
  | 0, _, _, _, _, _, _, _, _ => none
  | n + 1, w, v0, v3, v4, v5, v6, v7, v8 =>
  (hp w v0 5).bind fun p1 =>
  (okb (hc w p1 == 3) ((FX1_placements w v5 (hi w p1 0)).bind fun q4 =>
  (if q4.1 ≤ v8 then (some ((-2 : Int32), q4.2)) else
  ((FX8_isAsked q4.2 v0 v5 v8 v3).bind fun q9 =>
  (if q9.1 = 0 then (FX8_escape_103 (FX8_escape_48 n) q9.2 v0 v3 v4 v5 v6 v7 v8) else
  ((FX8_isCaught q9.2 v0 v5 v8 v7).bind fun q14 =>
  (if q14.1 = 0 then ((FX8_ofEscape q14.2 v0 v5 v6 v8 v4).bind fun q19 =>
  (some (q19.1, q19.2))) else
  (FX8_escape_103 (FX8_escape_48 n) q14.2 v0 v3 v4 v5 v6 v7 v8))))))))
set_option maxHeartbeats 4000000 in
set_option maxRecDepth 100000 in
theorem rX8_escape_48 {ar : Nat → Nat → Nat} {c0 : Nat → Nat} {sz : Nat} {r : Int32} {w' : HS}   : ∀ (n : Nat) (g : PH) (w : HS) (v0 : Nat) (v3 : Int32) (v4 : Int32) (v5 : Nat) (v6 : Nat) (v7 : Int32) (v8 : Int32), c0 v0 = 8 → Rel ar c0 sz g w → FX8_escape_48  n w v0 v3 v4 v5 v6 v7 v8 = some (r, w') → GR ar c0 sz r w' (fX8_escape_48  n g v0 v3 v4 v5 v6 v7 v8) := by
  intro n
  induction n with
  | zero =>
    intro g w v0 v3 v4 v5 v6 v7 v8 h0 P hF
    rw [FX8_escape_48] at hF
    cases hF
  | succ n ih =>
    intro g w v0 v3 v4 v5 v6 v7 v8 h0 P hF
    rw [FX8_escape_48] at hF
    rw [fX8_escape_48]
    replace hF := ob_some hF
    obtain ⟨p1, h2, hF⟩ := hF
    refine GR.bind (P.getRo (k := 5) h0 (by decide) (by decide) (by decide) h2) ?_
    replace hF := okb_some hF
    obtain ⟨h3, hF⟩ := hF
    replace h3 := P.cls h3
    refine GR.bind (P.rI (k := 0) h3 (by decide) (by decide) (by decide)) ?_
    replace hF := ob_some hF
    obtain ⟨q4, h5, hF⟩ := hF
    obtain ⟨g6, e7, P⟩ := rX1_placements (r := q4.1) (w' := q4.2) P h5
    refine GR.bind e7 ?_
    by_cases c8 : q4.1 ≤ v8
    · replace hF := ite_t c8 hF
      refine GR.t c8 ?_
      obtain ⟨f1, f2⟩ := finW hF
      subst f1
      subst f2
      exact GR.ret P
    replace hF := ite_f c8 hF
    refine GR.f c8 ?_
    replace hF := ob_some hF
    obtain ⟨q9, h10, hF⟩ := hF
    obtain ⟨g11, e12, P⟩ := rX8_isAsked (r := q9.1) (w' := q9.2) P h10
    refine GR.bind e12 ?_
    by_cases c13 : q9.1 = 0
    · replace hF := ite_t c13 hF
      refine GR.t c13 ?_
      exact rX8_escape_103 ih h0 P hF
    replace hF := ite_f c13 hF
    refine GR.f c13 ?_
    replace hF := ob_some hF
    obtain ⟨q14, h15, hF⟩ := hF
    obtain ⟨g16, e17, P⟩ := rX8_isCaught (r := q14.1) (w' := q14.2) P h15
    refine GR.bind e17 ?_
    by_cases c18 : q14.1 = 0
    · replace hF := ite_t c18 hF
      refine GR.t c18 ?_
      replace hF := ob_some hF
      obtain ⟨q19, h20, hF⟩ := hF
      obtain ⟨g21, e22, P⟩ := rX8_ofEscape (r := q19.1) (w' := q19.2) P h20
      refine GR.bind e22 ?_
      obtain ⟨f1, f2⟩ := finW hF
      subst f1
      subst f2
      exact GR.ret P
    replace hF := ite_f c18 hF
    refine GR.f c18 ?_
    exact rX8_escape_103 ih h0 P hF
def FX8_escape (w : HS) (a0 : Nat) (a1 : Int32) (a2 : Int32) (a3 : Int32) (a4 : Int32) : Option (Int32 × HS) :=
  okb (hc w a0 == 8) ((FX8_kindAt w a0 a2).bind fun q1 =>
  ((FX8_marchAt q1.2 a0 a1).bind fun q5 =>
  (q1.1.elim (some ((-1 : Int32), q5.2)) (fun p9 =>
  q5.1.elim (some ((-1 : Int32), q5.2)) (fun p11 =>
  if a4 < 0 then (some ((-1 : Int32), q5.2)) else
  (if a4 ≤ (3 : Int32) then ((FX8_bothOrders q5.2 a0 a1 a2).bind fun q15 =>
  (FX8_escape_48 FUEL q15.2 a0 a3 a4 p9 p11 q15.1 (0 : Int32))) else
  (some ((-1 : Int32), q5.2))))))))
set_option maxHeartbeats 4000000 in
set_option maxRecDepth 100000 in
theorem rX8_escape {ar : Nat → Nat → Nat} {c0 : Nat → Nat} {sz : Nat} {g : PH} {w w' : HS} {a0 : Nat} {a1 : Int32} {a2 : Int32} {a3 : Int32} {a4 : Int32} {r : Int32} (P : Rel ar c0 sz g w) (hF : FX8_escape w a0 a1 a2 a3 a4 = some (r, w')) : GR ar c0 sz r w' (fX8_escape g a0 a1 a2 a3 a4) := by
  unfold FX8_escape at hF
  unfold fX8_escape
  replace hF := okb_some hF
  obtain ⟨h0, hF⟩ := hF
  replace h0 := P.cls h0
  refine GR.ok (P.rO h0 (by decide)) ?_
  replace hF := ob_some hF
  obtain ⟨q1, h2, hF⟩ := hF
  obtain ⟨g3, e4, P⟩ := rX8_kindAt (r := q1.1) (w' := q1.2) P h2
  refine GR.bind e4 ?_
  dsimp only
  replace hF := ob_some hF
  obtain ⟨q5, h6, hF⟩ := hF
  obtain ⟨g7, e8, P⟩ := rX8_marchAt (r := q5.1) (w' := q5.2) P h6
  refine GR.bind e8 ?_
  dsimp only
  by_cases h10 : q1.1 = none
  · replace hF := el_n h10 hF
    refine GR.en h10 ?_
    obtain ⟨f1, f2⟩ := finW hF
    subst f1
    subst f2
    exact GR.ret P
  obtain ⟨p9, h10⟩ := Option.ne_none_iff_exists'.mp h10
  replace hF := el_s h10 hF
  refine GR.es h10 ?_
  by_cases h12 : q5.1 = none
  · replace hF := el_n h12 hF
    refine GR.en h12 ?_
    obtain ⟨f1, f2⟩ := finW hF
    subst f1
    subst f2
    exact GR.ret P
  obtain ⟨p11, h12⟩ := Option.ne_none_iff_exists'.mp h12
  replace hF := el_s h12 hF
  refine GR.es h12 ?_
  by_cases c13 : a4 < 0
  · replace hF := ite_t c13 hF
    refine GR.t c13 ?_
    obtain ⟨f1, f2⟩ := finW hF
    subst f1
    subst f2
    exact GR.ret P
  replace hF := ite_f c13 hF
  refine GR.f c13 ?_
  by_cases c14 : a4 ≤ (3 : Int32)
  · replace hF := ite_t c14 hF
    refine GR.t c14 ?_
    replace hF := ob_some hF
    obtain ⟨q15, h16, hF⟩ := hF
    obtain ⟨g17, e18, P⟩ := rX8_bothOrders (r := q15.1) (w' := q15.2) P h16
    refine GR.bind e18 ?_
    exact rX8_escape_48  _ _ _ _ _ _ _ _ _ _ h0 P hF
  replace hF := ite_f c14 hF
  refine GR.f c14 ?_
  obtain ⟨f1, f2⟩ := finW hF
  subst f1
  subst f2
  exact GR.ret P
def FX8_onTwo (w : HS) (a0 : Nat) (a1 : Int32) (a2 : Int32) : Option (Int32 × HS) :=
  okb (hc w a0 == 8) ((FX8_kindAt w a0 a2).bind fun q1 =>
  (q1.1.elim (some ((-1 : Int32), q1.2)) (fun p5 =>
  (FX8_marchAt q1.2 a0 a1).bind fun q7 =>
  (q7.1.elim (some ((-1 : Int32), q7.2)) (fun p11 =>
  (FX8_bothOrders q7.2 a0 a1 a2).bind fun q13 =>
  (some (q13.1, q13.2)))))))
set_option maxHeartbeats 4000000 in
set_option maxRecDepth 100000 in
theorem rX8_onTwo {ar : Nat → Nat → Nat} {c0 : Nat → Nat} {sz : Nat} {g : PH} {w w' : HS} {a0 : Nat} {a1 : Int32} {a2 : Int32} {r : Int32} (P : Rel ar c0 sz g w) (hF : FX8_onTwo w a0 a1 a2 = some (r, w')) : GR ar c0 sz r w' (fX8_onTwo g a0 a1 a2) := by
  unfold FX8_onTwo at hF
  unfold fX8_onTwo
  replace hF := okb_some hF
  obtain ⟨h0, hF⟩ := hF
  replace h0 := P.cls h0
  refine GR.ok (P.rO h0 (by decide)) ?_
  replace hF := ob_some hF
  obtain ⟨q1, h2, hF⟩ := hF
  obtain ⟨g3, e4, P⟩ := rX8_kindAt (r := q1.1) (w' := q1.2) P h2
  refine GR.bind e4 ?_
  dsimp only
  by_cases h6 : q1.1 = none
  · replace hF := el_n h6 hF
    refine GR.en h6 ?_
    obtain ⟨f1, f2⟩ := finW hF
    subst f1
    subst f2
    exact GR.ret P
  obtain ⟨p5, h6⟩ := Option.ne_none_iff_exists'.mp h6
  replace hF := el_s h6 hF
  refine GR.es h6 ?_
  replace hF := ob_some hF
  obtain ⟨q7, h8, hF⟩ := hF
  obtain ⟨g9, e10, P⟩ := rX8_marchAt (r := q7.1) (w' := q7.2) P h8
  refine GR.bind e10 ?_
  dsimp only
  by_cases h12 : q7.1 = none
  · replace hF := el_n h12 hF
    refine GR.en h12 ?_
    obtain ⟨f1, f2⟩ := finW hF
    subst f1
    subst f2
    exact GR.ret P
  obtain ⟨p11, h12⟩ := Option.ne_none_iff_exists'.mp h12
  replace hF := el_s h12 hF
  refine GR.es h12 ?_
  replace hF := ob_some hF
  obtain ⟨q13, h14, hF⟩ := hF
  obtain ⟨g15, e16, P⟩ := rX8_bothOrders (r := q13.1) (w' := q13.2) P h14
  refine GR.bind e16 ?_
  obtain ⟨f1, f2⟩ := finW hF
  subst f1
  subst f2
  exact GR.ret P
def FX8_covers_38 (k14 : HS → Nat → Int32 → Int32 → Int32 → Option (Int32 × HS)) (w : HS) (v0 : Nat) (v1 : Int32) (v2 : Int32) (v3 : Int32) : Option (Int32 × HS) :=
  k14 w v0 v1 v2 (v3 + (1 : Int32))
set_option maxHeartbeats 4000000 in
set_option maxRecDepth 100000 in
theorem rX8_covers_38 {ar : Nat → Nat → Nat} {c0 : Nat → Nat} {sz : Nat} {r : Int32} {w' : HS} {k14 : HS → Nat → Int32 → Int32 → Int32 → Option (Int32 × HS)} {j14 : PH → Nat → Int32 → Int32 → Int32 → Option (Int32 × PH)} (hk14 : ∀ (g : PH) (w : HS) (v0 : Nat) (v1 : Int32) (v2 : Int32) (v3 : Int32), c0 v0 = 8 → Rel ar c0 sz g w → k14 w v0 v1 v2 v3 = some (r, w') → GR ar c0 sz r w' (j14 g v0 v1 v2 v3)) {g : PH} {w : HS} {v0 : Nat} {v1 : Int32} {v2 : Int32} {v3 : Int32} (h0 : c0 v0 = 8) (P : Rel ar c0 sz g w) (hF : FX8_covers_38 k14 w v0 v1 v2 v3 = some (r, w')) : GR ar c0 sz r w' (fX8_covers_38 j14 g v0 v1 v2 v3) := by
  unfold FX8_covers_38 at hF
  unfold fX8_covers_38
  exact hk14 _ _ _ _ _ _ h0 P hF
def FX8_covers_14  : Nat → HS → Nat → Int32 → Int32 → Int32 → Option (Int32 × HS)
  | 0, _, _, _, _, _ => none
  | n + 1, w, v0, v1, v2, v3 =>
  if (hi w v0 2) ≤ v3 then (some (v2, w)) else
  ((FX8_bothOrders w v0 v1 v3).bind fun q2 =>
  (if q2.1 = (3 : Int32) then (FX8_covers_38 (FX8_covers_14 n) q2.2 v0 v1 (v2 ||| ((1 : Int32) <<< (v3 &&& 31))) v3) else
  (FX8_covers_38 (FX8_covers_14 n) q2.2 v0 v1 v2 v3)))
set_option maxHeartbeats 4000000 in
set_option maxRecDepth 100000 in
theorem rX8_covers_14 {ar : Nat → Nat → Nat} {c0 : Nat → Nat} {sz : Nat} {r : Int32} {w' : HS}   : ∀ (n : Nat) (g : PH) (w : HS) (v0 : Nat) (v1 : Int32) (v2 : Int32) (v3 : Int32), c0 v0 = 8 → Rel ar c0 sz g w → FX8_covers_14  n w v0 v1 v2 v3 = some (r, w') → GR ar c0 sz r w' (fX8_covers_14  n g v0 v1 v2 v3) := by
  intro n
  induction n with
  | zero =>
    intro g w v0 v1 v2 v3 h0 P hF
    rw [FX8_covers_14] at hF
    cases hF
  | succ n ih =>
    intro g w v0 v1 v2 v3 h0 P hF
    rw [FX8_covers_14] at hF
    rw [fX8_covers_14]
    refine GR.bind (P.rI (k := 2) h0 (by decide) (by decide) (by decide)) ?_
    by_cases c1 : (hi w v0 2) ≤ v3
    · replace hF := ite_t c1 hF
      refine GR.t c1 ?_
      obtain ⟨f1, f2⟩ := finW hF
      subst f1
      subst f2
      exact GR.ret P
    replace hF := ite_f c1 hF
    refine GR.f c1 ?_
    replace hF := ob_some hF
    obtain ⟨q2, h3, hF⟩ := hF
    obtain ⟨g4, e5, P⟩ := rX8_bothOrders (r := q2.1) (w' := q2.2) P h3
    refine GR.bind e5 ?_
    by_cases c6 : q2.1 = (3 : Int32)
    · replace hF := ite_t c6 hF
      refine GR.t c6 ?_
      exact rX8_covers_38 ih h0 P hF
    replace hF := ite_f c6 hF
    refine GR.f c6 ?_
    exact rX8_covers_38 ih h0 P hF
def FX8_covers (w : HS) (a0 : Nat) (a1 : Int32) : Option (Int32 × HS) :=
  okb (hc w a0 == 8) ((FX8_marchAt w a0 a1).bind fun q1 =>
  (q1.1.elim (some ((-1 : Int32), q1.2)) (fun p5 =>
  FX8_covers_14 FUEL q1.2 a0 a1 (0 : Int32) (0 : Int32))))
set_option maxHeartbeats 4000000 in
set_option maxRecDepth 100000 in
theorem rX8_covers {ar : Nat → Nat → Nat} {c0 : Nat → Nat} {sz : Nat} {g : PH} {w w' : HS} {a0 : Nat} {a1 : Int32} {r : Int32} (P : Rel ar c0 sz g w) (hF : FX8_covers w a0 a1 = some (r, w')) : GR ar c0 sz r w' (fX8_covers g a0 a1) := by
  unfold FX8_covers at hF
  unfold fX8_covers
  replace hF := okb_some hF
  obtain ⟨h0, hF⟩ := hF
  replace h0 := P.cls h0
  refine GR.ok (P.rO h0 (by decide)) ?_
  replace hF := ob_some hF
  obtain ⟨q1, h2, hF⟩ := hF
  obtain ⟨g3, e4, P⟩ := rX8_marchAt (r := q1.1) (w' := q1.2) P h2
  refine GR.bind e4 ?_
  dsimp only
  by_cases h6 : q1.1 = none
  · replace hF := el_n h6 hF
    refine GR.en h6 ?_
    obtain ⟨f1, f2⟩ := finW hF
    subst f1
    subst f2
    exact GR.ret P
  obtain ⟨p5, h6⟩ := Option.ne_none_iff_exists'.mp h6
  replace hF := el_s h6 hF
  refine GR.es h6 ?_
  exact rX8_covers_14  _ _ _ _ _ _ _ h0 P hF
def FX8_areKinds (w : HS) (a0 : Nat) (a1 : Int32) : Option (Int32 × HS) :=
  okb (hc w a0 == 8) (if a1 < 0 then (some ((0 : Int32), w)) else
  (if ((1 : Int32) <<< ((hi w a0 2) &&& 31)) ≤ a1 then (some ((0 : Int32), w)) else
  (some ((1 : Int32), w))))
set_option maxHeartbeats 4000000 in
set_option maxRecDepth 100000 in
theorem rX8_areKinds {ar : Nat → Nat → Nat} {c0 : Nat → Nat} {sz : Nat} {g : PH} {w w' : HS} {a0 : Nat} {a1 : Int32} {r : Int32} (P : Rel ar c0 sz g w) (hF : FX8_areKinds w a0 a1 = some (r, w')) : GR ar c0 sz r w' (fX8_areKinds g a0 a1) := by
  unfold FX8_areKinds at hF
  unfold fX8_areKinds
  replace hF := okb_some hF
  obtain ⟨h0, hF⟩ := hF
  replace h0 := P.cls h0
  refine GR.ok (P.rO h0 (by decide)) ?_
  by_cases c1 : a1 < 0
  · replace hF := ite_t c1 hF
    refine GR.t c1 ?_
    obtain ⟨f1, f2⟩ := finW hF
    subst f1
    subst f2
    exact GR.ret P
  replace hF := ite_f c1 hF
  refine GR.f c1 ?_
  refine GR.bind (P.rI (k := 2) h0 (by decide) (by decide) (by decide)) ?_
  by_cases c2 : ((1 : Int32) <<< ((hi w a0 2) &&& 31)) ≤ a1
  · replace hF := ite_t c2 hF
    refine GR.t c2 ?_
    obtain ⟨f1, f2⟩ := finW hF
    subst f1
    subst f2
    exact GR.ret P
  replace hF := ite_f c2 hF
  refine GR.f c2 ?_
  obtain ⟨f1, f2⟩ := finW hF
  subst f1
  subst f2
  exact GR.ret P
def FX8_memory (w : HS) (a0 : Nat) (a1 : Int32) : Option (Int32 × HS) :=
  okb (hc w a0 == 8) (if a1 < (2 : Int32) then (some ((0 : Int32), w)) else
  (if a1 ≤ (6 : Int32) then ((hp w a0 5).bind fun p3 =>
  ((FX3_begin w p3 a1).bind fun q5 =>
  ((hp q5.2 a0 6).bind fun p9 =>
  ((FX0_forget q5.2 p9).bind fun q11 =>
  (some ((1 : Int32), q11.2)))))) else
  (some ((0 : Int32), w))))
set_option maxHeartbeats 4000000 in
set_option maxRecDepth 100000 in
theorem rX8_memory {ar : Nat → Nat → Nat} {c0 : Nat → Nat} {sz : Nat} {g : PH} {w w' : HS} {a0 : Nat} {a1 : Int32} {r : Int32} (P : Rel ar c0 sz g w) (hF : FX8_memory w a0 a1 = some (r, w')) : GR ar c0 sz r w' (fX8_memory g a0 a1) := by
  unfold FX8_memory at hF
  unfold fX8_memory
  replace hF := okb_some hF
  obtain ⟨h0, hF⟩ := hF
  replace h0 := P.cls h0
  refine GR.ok (P.rO h0 (by decide)) ?_
  by_cases c1 : a1 < (2 : Int32)
  · replace hF := ite_t c1 hF
    refine GR.t c1 ?_
    obtain ⟨f1, f2⟩ := finW hF
    subst f1
    subst f2
    exact GR.ret P
  replace hF := ite_f c1 hF
  refine GR.f c1 ?_
  by_cases c2 : a1 ≤ (6 : Int32)
  · replace hF := ite_t c2 hF
    refine GR.t c2 ?_
    replace hF := ob_some hF
    obtain ⟨p3, h4, hF⟩ := hF
    refine GR.bind (P.getRo (k := 5) h0 (by decide) (by decide) (by decide) h4) ?_
    replace hF := ob_some hF
    obtain ⟨q5, h6, hF⟩ := hF
    obtain ⟨g7, e8, P⟩ := rX3_begin (r := q5.1) (w' := q5.2) P h6
    refine GR.bind e8 ?_
    replace hF := ob_some hF
    obtain ⟨p9, h10, hF⟩ := hF
    refine GR.bind (P.getRo (k := 6) h0 (by decide) (by decide) (by decide) h10) ?_
    replace hF := ob_some hF
    obtain ⟨q11, h12, hF⟩ := hF
    obtain ⟨g13, e14, P⟩ := rX0_forget (r := q11.1) (w' := q11.2) P h12
    refine GR.bind e14 ?_
    obtain ⟨f1, f2⟩ := finW hF
    subst f1
    subst f2
    exact GR.ret P
  replace hF := ite_f c2 hF
  refine GR.f c2 ?_
  obtain ⟨f1, f2⟩ := finW hF
  subst f1
  subst f2
  exact GR.ret P
def FX8_undo (w : HS) (a0 : Nat) : Option (Int32 × HS) :=
  okb (hc w a0 == 8) ((hp w a0 6).bind fun p1 =>
  ((hp w a0 5).bind fun p3 =>
  ((FX0_restore w p1 p3).bind fun q5 =>
  (if q5.1 = 0 then (some ((-1 : Int32), q5.2)) else
  ((hp q5.2 a0 6).bind fun p10 =>
  (okb (hc q5.2 p10 == 0) (some ((hi q5.2 p10 0), q5.2))))))))
set_option maxHeartbeats 4000000 in
set_option maxRecDepth 100000 in
theorem rX8_undo {ar : Nat → Nat → Nat} {c0 : Nat → Nat} {sz : Nat} {g : PH} {w w' : HS} {a0 : Nat} {r : Int32} (P : Rel ar c0 sz g w) (hF : FX8_undo w a0 = some (r, w')) : GR ar c0 sz r w' (fX8_undo g a0) := by
  unfold FX8_undo at hF
  unfold fX8_undo
  replace hF := okb_some hF
  obtain ⟨h0, hF⟩ := hF
  replace h0 := P.cls h0
  refine GR.ok (P.rO h0 (by decide)) ?_
  replace hF := ob_some hF
  obtain ⟨p1, h2, hF⟩ := hF
  refine GR.bind (P.getRo (k := 6) h0 (by decide) (by decide) (by decide) h2) ?_
  replace hF := ob_some hF
  obtain ⟨p3, h4, hF⟩ := hF
  refine GR.bind (P.getRo (k := 5) h0 (by decide) (by decide) (by decide) h4) ?_
  replace hF := ob_some hF
  obtain ⟨q5, h6, hF⟩ := hF
  obtain ⟨g7, e8, P⟩ := rX0_restore (r := q5.1) (w' := q5.2) P h6
  refine GR.bind e8 ?_
  by_cases c9 : q5.1 = 0
  · replace hF := ite_t c9 hF
    refine GR.t c9 ?_
    obtain ⟨f1, f2⟩ := finW hF
    subst f1
    subst f2
    exact GR.ret P
  replace hF := ite_f c9 hF
  refine GR.f c9 ?_
  replace hF := ob_some hF
  obtain ⟨p10, h11, hF⟩ := hF
  refine GR.bind (P.getRo (k := 6) h0 (by decide) (by decide) (by decide) h11) ?_
  replace hF := okb_some hF
  obtain ⟨h12, hF⟩ := hF
  replace h12 := P.cls h12
  refine GR.bind (P.rI (k := 0) h12 (by decide) (by decide) (by decide)) ?_
  obtain ⟨f1, f2⟩ := finW hF
  subst f1
  subst f2
  exact GR.ret P
