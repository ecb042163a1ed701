def FX0_keep_59  (w : HS) (sz : Nat) (v0 : Nat) (s0 : Int32) (s1 : Nat) : Option (Unit × HS × Nat × Nat) :=
  okb (hc w s1 == 0) (bnd (setI w s1 1 s0) fun w2 =>
  (bnd (setI w2 v0 0 (if ((hi w2 v0 0) + (1 : Int32)) < (20 : Int32) then ((hi w2 v0 0) + (1 : Int32)) else (20 : Int32))) fun w6 =>
  (some ((), w6, 0, 0))))
set_option maxHeartbeats 4000000 in
set_option maxRecDepth 100000 in
theorem rX0_keep_59 {ar : Nat → Nat → Nat} {c0 : Nat → Nat} {sz : Nat} {r : Unit} {w' : HS}   {g : PH} {w : HS} {v0 : Nat} {s0 : Int32} {s1 : Nat} {mc ms : Nat} (h0 : c0 v0 = 0) (P : Rel ar c0 sz g w) (hF : FX0_keep_59  w sz v0 s0 s1 = some (r, w', mc, ms)) : GA ar c0 sz r w' mc ms (fX0_keep_59  g sz v0 s0 s1) := by
  unfold FX0_keep_59 at hF
  unfold fX0_keep_59
  replace hF := okb_some hF
  obtain ⟨h1, hF⟩ := hF
  replace h1 := P.cls h1
  replace hF := bnd_e hF
  obtain ⟨w2, e3, hF⟩ := hF
  obtain ⟨g4, e5, P⟩ := P.putI (k := 1) h1 (by decide) (by decide) (by decide) e3
  refine GA.bind e5 ?_
  refine GA.bind (P.rI (k := 0) h0 (by decide) (by decide) (by decide)) ?_
  replace hF := bnd_e hF
  obtain ⟨w6, e7, hF⟩ := hF
  obtain ⟨g8, e9, P⟩ := P.putI (k := 0) h0 (by decide) (by decide) (by decide) e7
  refine GA.bind e9 ?_
  obtain ⟨f1, f2, f3, f4⟩ := fnW4 hF
  subst f1
  subst f2
  subst f3; subst f4; exact GA.ret P
def FX0_keep_32  (w : HS) (sz : Nat) (v0 : Nat) (v1 : Nat) (v2 : Nat) : Option (Unit × HS × Nat × Nat) :=
  (FX3_copyFrom w v2 v1).bind fun q1 =>
  (if (20 : Int32) ≤ ((hi q1.2 v0 1) + (1 : Int32)) then (FX0_keep_59 q1.2 sz v0 (0 : Int32) v0) else
  (FX0_keep_59 q1.2 sz v0 ((hi q1.2 v0 1) + (1 : Int32)) v0))
set_option maxHeartbeats 4000000 in
set_option maxRecDepth 100000 in
theorem rX0_keep_32 {ar : Nat → Nat → Nat} {c0 : Nat → Nat} {sz : Nat} {r : Unit} {w' : HS}   {g : PH} {w : HS} {v0 : Nat} {v1 : Nat} {v2 : Nat} {mc ms : Nat} (h0 : c0 v0 = 0) (P : Rel ar c0 sz g w) (hF : FX0_keep_32  w sz v0 v1 v2 = some (r, w', mc, ms)) : GA ar c0 sz r w' mc ms (fX0_keep_32  g sz v0 v1 v2) := by
  unfold FX0_keep_32 at hF
  unfold fX0_keep_32
  replace hF := ob_some hF
  obtain ⟨q1, h2, hF⟩ := hF
  obtain ⟨g3, e4, P⟩ := rX3_copyFrom (r := q1.1) (w' := q1.2) P h2
  refine GA.bind e4 ?_
  refine GA.bind (P.rI (k := 1) h0 (by decide) (by decide) (by decide)) ?_
  by_cases c5 : (20 : Int32) ≤ ((hi q1.2 v0 1) + (1 : Int32))
  · replace hF := ite_t c5 hF
    refine GA.t c5 ?_
    exact rX0_keep_59  h0 P hF
  replace hF := ite_f c5 hF
  refine GA.f c5 ?_
  refine GA.bind (P.rI (k := 1) h0 (by decide) (by decide) (by decide)) ?_
  exact rX0_keep_59  h0 P hF
def FX0_keep (sz : Nat) (w : HS) (a0 : Nat) (a1 : Nat) : Option (Unit × HS × Nat × Nat) :=
  okb (hc w a0 == 0) (okb (inb (hi w a0 1) 20) ((hq w a0 2 ((hi w a0 1).toNatClampNeg)).elim (bmw 1 12 (bmw 2 66 (bnd (nwX3 w sz) fun w16 =>
  (okb (inb (hi w16 a0 1) 20) (bnd (setQ w16 a0 2 ((hi w16 a0 1).toNatClampNeg) (some sz)) fun w25 =>
  (FX0_keep_32 w25 ((sz + 1) + 2) a0 a1 sz)))))) (fun p2 =>
  FX0_keep_32 w sz a0 a1 p2)))
set_option maxHeartbeats 4000000 in
set_option maxRecDepth 100000 in
theorem rX0_keep {ar : Nat → Nat → Nat} {c0 : Nat → Nat} {sz : Nat} {g : PH} {w w' : HS} {a0 : Nat} {a1 : Nat} {r : Unit} {mc ms : Nat} (P : Rel ar c0 sz g w) (hF : FX0_keep sz w a0 a1 = some (r, w', mc, ms)) : GA ar c0 sz r w' mc ms (fX0_keep sz g a0 a1) := by
  unfold FX0_keep at hF
  unfold fX0_keep
  replace hF := okb_some hF
  obtain ⟨h0, hF⟩ := hF
  replace h0 := P.cls h0
  refine GA.ok (P.rO h0 (by decide)) ?_
  refine GA.bind (P.getRa (k := 2) h0 (by decide) (by decide) (by decide)) ?_
  refine GA.bind (P.rI (k := 1) h0 (by decide) (by decide) (by decide)) ?_
  replace hF := okb_some hF
  obtain ⟨h1, hF⟩ := hF
  refine GA.bind (P.dQ (k := 2) (n := (hi w a0 1).toNatClampNeg) h0 (by decide) (by decide) (by decide) (by decide) h1 rfl) ?_
  by_cases h3 : (hq w a0 2 ((hi w a0 1).toNatClampNeg)) = none
  · replace hF := el_n h3 hF
    refine GA.en h3 ?_
    replace hF := bmw_some hF
    obtain ⟨b4, b5, hF, h8, h9⟩ := hF
    replace hF := bmw_some hF
    obtain ⟨b6, b7, hF, h10, h11⟩ := hF
    replace hF := bnd_e hF
    obtain ⟨w16, e17, hF⟩ := hF
    obtain ⟨g12, ar18, cc19, e13, P14, X15, h20⟩ := cuX3 P
    rw [← e17] at P14
    refine GA.of h8 h9 ?_
    refine GA.bmp (Ext.rf _ _) ?_
    refine GA.of h10 h11 ?_
    refine GA.bind e13 ?_
    refine GA.bmp X15 ?_
    clear P
    have P := P14
    have h21 := (X15 _ (by omega)).1.trans h0
    refine GA.bind (P.getRa (k := 2) h21 (by decide) (by decide) (by decide)) ?_
    refine GA.bind (P.rI (k := 1) h21 (by decide) (by decide) (by decide)) ?_
    replace hF := okb_some hF
    obtain ⟨h22, hF⟩ := hF
    replace hF := bnd_e hF
    obtain ⟨w25, e26, hF⟩ := hF
    obtain ⟨g23, e24, P⟩ := P.sQ (k := 2) (kd := 6) (j := (hi w16 a0 1)) h21 (by decide) (by decide) (by decide) (by decide) h22 rfl h20 (by decide) e26
    refine GA.bind e24 ?_
    exact rX0_keep_32  h21 P hF
  obtain ⟨p2, h3⟩ := Option.ne_none_iff_exists'.mp h3
  replace hF := el_s h3 hF
  refine GA.es h3 ?_
  exact rX0_keep_32  h0 P hF
def FX8_kind (sz : Nat) (w : HS) (a0 : Nat) : Option (Int32 × HS × Nat × Nat) :=
  okb (hc w a0 == 8) (if (8 : Int32) ≤ (hi w a0 2) then (some ((-1 : Int32), w, 0, 0)) else
  ((hp w a0 0).bind fun p2 =>
  (okb (hc w p2 == 6) (if (hi w p2 1) ≤ (100 : Int32) then (bmw 1 9 (bmw 7 48 (bnd (nwX1 w sz) fun w18 =>
  ((hp w18 a0 0).bind fun p25 =>
  ((FX1_scan w18 sz p25).bind fun q27 =>
  ((hp q27.2 a0 0).bind fun p31 =>
  (okb (hc q27.2 p31 == 6) (bnd (setI q27.2 p31 1 (0 : Int32)) fun w34 =>
  ((hp w34 a0 0).bind fun p38 =>
  (okb (hc w34 p38 == 6) (if (hi w34 p38 3) = 0 then ((FX1_prepare w34 sz).bind fun q42 =>
  (okb (inb (hi q42.2 a0 2) 8) (bnd (setQ q42.2 a0 1 ((hi q42.2 a0 2).toNatClampNeg) (some sz)) fun w49 =>
  (bnd (setI w49 a0 2 ((hi w49 a0 2) + (1 : Int32))) fun w51 =>
  (some (((hi w51 a0 2) - (1 : Int32)), w51, 0, 0)))))) else
  ((hp w34 a0 0).bind fun p55 =>
  (okb (hc w34 p55 == 6) (some (((-2 : Int32) - (hi w34 p55 3)), w34, 0, 0))))))))))))))) else
  (some ((-1 : Int32), w, 0, 0))))))
set_option maxHeartbeats 4000000 in
set_option maxRecDepth 100000 in
theorem rX8_kind {ar : Nat → Nat → Nat} {c0 : Nat → Nat} {sz : Nat} {g : PH} {w w' : HS} {a0 : Nat} {r : Int32} {mc ms : Nat} (P : Rel ar c0 sz g w) (hF : FX8_kind sz w a0 = some (r, w', mc, ms)) : GA ar c0 sz r w' mc ms (fX8_kind sz g a0) := by
  unfold FX8_kind at hF
  unfold fX8_kind
  replace hF := okb_some hF
  obtain ⟨h0, hF⟩ := hF
  replace h0 := P.cls h0
  refine GA.ok (P.rO h0 (by decide)) ?_
  refine GA.bind (P.rI (k := 2) h0 (by decide) (by decide) (by decide)) ?_
  by_cases c1 : (8 : Int32) ≤ (hi w a0 2)
  · replace hF := ite_t c1 hF
    refine GA.t c1 ?_
    obtain ⟨f1, f2, f3, f4⟩ := fnW4 hF
    subst f1
    subst f2
    subst f3; subst f4; exact GA.ret P
  replace hF := ite_f c1 hF
  refine GA.f c1 ?_
  replace hF := ob_some hF
  obtain ⟨p2, h3, hF⟩ := hF
  refine GA.bind (P.getRo (k := 0) h0 (by decide) (by decide) (by decide) h3) ?_
  replace hF := okb_some hF
  obtain ⟨h4, hF⟩ := hF
  replace h4 := P.cls h4
  refine GA.bind (P.rI (k := 1) h4 (by decide) (by decide) (by decide)) ?_
  by_cases c5 : (hi w p2 1) ≤ (100 : Int32)
  · replace hF := ite_t c5 hF
    refine GA.t c5 ?_
    replace hF := bmw_some hF
    obtain ⟨b6, b7, hF, h10, h11⟩ := hF
    replace hF := bmw_some hF
    obtain ⟨b8, b9, hF, h12, h13⟩ := hF
    replace hF := bnd_e hF
    obtain ⟨w18, e19, hF⟩ := hF
    obtain ⟨g14, ar20, cc21, e15, P16, X17, h22⟩ := cuX1 P
    rw [← e19] at P16
    refine GA.of h10 h11 ?_
    refine GA.bmp (Ext.rf _ _) ?_
    refine GA.of h12 h13 ?_
    refine GA.bind e15 ?_
    refine GA.bmp X17 ?_
    clear P
    have P := P16
    have h23 := (X17 _ (by omega)).1.trans h0
    have h24 := (X17 _ (by omega)).1.trans h4
    replace hF := ob_some hF
    obtain ⟨p25, h26, hF⟩ := hF
    refine GA.bind (P.getRo (k := 0) h23 (by decide) (by decide) (by decide) h26) ?_
    replace hF := ob_some hF
    obtain ⟨q27, h28, hF⟩ := hF
    obtain ⟨g29, e30, P⟩ := rX1_scan (r := q27.1) (w' := q27.2) P h28
    refine GA.bind e30 ?_
    replace hF := ob_some hF
    obtain ⟨p31, h32, hF⟩ := hF
    refine GA.bind (P.getRo (k := 0) h23 (by decide) (by decide) (by decide) h32) ?_
    replace hF := okb_some hF
    obtain ⟨h33, hF⟩ := hF
    replace h33 := P.cls h33
    replace hF := bnd_e hF
    obtain ⟨w34, e35, hF⟩ := hF
    obtain ⟨g36, e37, P⟩ := P.putI (k := 1) h33 (by decide) (by decide) (by decide) e35
    refine GA.bind e37 ?_
    replace hF := ob_some hF
    obtain ⟨p38, h39, hF⟩ := hF
    refine GA.bind (P.getRo (k := 0) h23 (by decide) (by decide) (by decide) h39) ?_
    replace hF := okb_some hF
    obtain ⟨h40, hF⟩ := hF
    replace h40 := P.cls h40
    refine GA.bind (P.rI (k := 3) h40 (by decide) (by decide) (by decide)) ?_
    by_cases c41 : (hi w34 p38 3) = 0
    · replace hF := ite_t c41 hF
      refine GA.t c41 ?_
      replace hF := ob_some hF
      obtain ⟨q42, h43, hF⟩ := hF
      obtain ⟨g44, e45, P⟩ := rX1_prepare (r := q42.1) (w' := q42.2) P h43
      refine GA.bind e45 ?_
      refine GA.bind (P.getRa (k := 1) h23 (by decide) (by decide) (by decide)) ?_
      refine GA.bind (P.rI (k := 2) h23 (by decide) (by decide) (by decide)) ?_
      replace hF := okb_some hF
      obtain ⟨h46, hF⟩ := hF
      replace hF := bnd_e hF
      obtain ⟨w49, e50, hF⟩ := hF
      obtain ⟨g47, e48, P⟩ := P.sQ (k := 1) (kd := 4) (j := (hi q42.2 a0 2)) h23 (by decide) (by decide) (by decide) (by decide) h46 rfl h22 (by decide) e50
      refine GA.bind e48 ?_
      refine GA.bind (P.rI (k := 2) h23 (by decide) (by decide) (by decide)) ?_
      replace hF := bnd_e hF
      obtain ⟨w51, e52, hF⟩ := hF
      obtain ⟨g53, e54, P⟩ := P.putI (k := 2) h23 (by decide) (by decide) (by decide) e52
      refine GA.bind e54 ?_
      refine GA.bind (P.rI (k := 2) h23 (by decide) (by decide) (by decide)) ?_
      obtain ⟨f1, f2, f3, f4⟩ := fnW4 hF
      subst f1
      subst f2
      subst f3; subst f4; exact GA.ret P
    replace hF := ite_f c41 hF
    refine GA.f c41 ?_
    replace hF := ob_some hF
    obtain ⟨p55, h56, hF⟩ := hF
    refine GA.bind (P.getRo (k := 0) h23 (by decide) (by decide) (by decide) h56) ?_
    replace hF := okb_some hF
    obtain ⟨h57, hF⟩ := hF
    replace h57 := P.cls h57
    refine GA.bind (P.rI (k := 3) h57 (by decide) (by decide) (by decide)) ?_
    obtain ⟨f1, f2, f3, f4⟩ := fnW4 hF
    subst f1
    subst f2
    subst f3; subst f4; exact GA.ret P
  replace hF := ite_f c5 hF
  refine GA.f c5 ?_
  obtain ⟨f1, f2, f3, f4⟩ := fnW4 hF
  subst f1
  subst f2
  subst f3; subst f4; exact GA.ret P
def FX8_march (sz : Nat) (w : HS) (a0 : Nat) : Option (Int32 × HS × Nat × Nat) :=
  okb (hc w a0 == 8) (if (hi w a0 4) < (6 : Int32) then (bmw 1 9 (bmw 4 72 (bnd (nwX2 w sz) fun w14 =>
  ((hp w14 a0 0).bind fun p20 =>
  ((FX2_scan w14 sz p20).bind fun q22 =>
  ((hp q22.2 a0 0).bind fun p26 =>
  (okb (hc q22.2 p26 == 6) (bnd (setI q22.2 p26 1 (0 : Int32)) fun w29 =>
  ((hp w29 a0 0).bind fun p33 =>
  (okb (hc w29 p33 == 6) (if (hi w29 p33 3) = 0 then (okb (inb (hi w29 a0 4) 6) (bnd (setQ w29 a0 3 ((hi w29 a0 4).toNatClampNeg) (some sz)) fun w40 =>
  (bnd (setI w40 a0 4 ((hi w40 a0 4) + (1 : Int32))) fun w42 =>
  (some (((hi w42 a0 4) - (1 : Int32)), w42, 0, 0))))) else
  ((hp w29 a0 0).bind fun p46 =>
  (okb (hc w29 p46 == 6) (some (((-2 : Int32) - (hi w29 p46 3)), w29, 0, 0))))))))))))))) else
  (some ((-1 : Int32), w, 0, 0)))
set_option maxHeartbeats 4000000 in
set_option maxRecDepth 100000 in
theorem rX8_march {ar : Nat → Nat → Nat} {c0 : Nat → Nat} {sz : Nat} {g : PH} {w w' : HS} {a0 : Nat} {r : Int32} {mc ms : Nat} (P : Rel ar c0 sz g w) (hF : FX8_march sz w a0 = some (r, w', mc, ms)) : GA ar c0 sz r w' mc ms (fX8_march sz g a0) := by
  unfold FX8_march at hF
  unfold fX8_march
  replace hF := okb_some hF
  obtain ⟨h0, hF⟩ := hF
  replace h0 := P.cls h0
  refine GA.ok (P.rO h0 (by decide)) ?_
  refine GA.bind (P.rI (k := 4) h0 (by decide) (by decide) (by decide)) ?_
  by_cases c1 : (hi w a0 4) < (6 : Int32)
  · replace hF := ite_t c1 hF
    refine GA.t c1 ?_
    replace hF := bmw_some hF
    obtain ⟨b2, b3, hF, h6, h7⟩ := hF
    replace hF := bmw_some hF
    obtain ⟨b4, b5, hF, h8, h9⟩ := hF
    replace hF := bnd_e hF
    obtain ⟨w14, e15, hF⟩ := hF
    obtain ⟨g10, ar16, cc17, e11, P12, X13, h18⟩ := cuX2 P
    rw [← e15] at P12
    refine GA.of h6 h7 ?_
    refine GA.bmp (Ext.rf _ _) ?_
    refine GA.of h8 h9 ?_
    refine GA.bind e11 ?_
    refine GA.bmp X13 ?_
    clear P
    have P := P12
    have h19 := (X13 _ (by omega)).1.trans h0
    replace hF := ob_some hF
    obtain ⟨p20, h21, hF⟩ := hF
    refine GA.bind (P.getRo (k := 0) h19 (by decide) (by decide) (by decide) h21) ?_
    replace hF := ob_some hF
    obtain ⟨q22, h23, hF⟩ := hF
    obtain ⟨g24, e25, P⟩ := rX2_scan (r := q22.1) (w' := q22.2) P h23
    refine GA.bind e25 ?_
    replace hF := ob_some hF
    obtain ⟨p26, h27, hF⟩ := hF
    refine GA.bind (P.getRo (k := 0) h19 (by decide) (by decide) (by decide) h27) ?_
    replace hF := okb_some hF
    obtain ⟨h28, hF⟩ := hF
    replace h28 := P.cls h28
    replace hF := bnd_e hF
    obtain ⟨w29, e30, hF⟩ := hF
    obtain ⟨g31, e32, P⟩ := P.putI (k := 1) h28 (by decide) (by decide) (by decide) e30
    refine GA.bind e32 ?_
    replace hF := ob_some hF
    obtain ⟨p33, h34, hF⟩ := hF
    refine GA.bind (P.getRo (k := 0) h19 (by decide) (by decide) (by decide) h34) ?_
    replace hF := okb_some hF
    obtain ⟨h35, hF⟩ := hF
    replace h35 := P.cls h35
    refine GA.bind (P.rI (k := 3) h35 (by decide) (by decide) (by decide)) ?_
    by_cases c36 : (hi w29 p33 3) = 0
    · replace hF := ite_t c36 hF
      refine GA.t c36 ?_
      refine GA.bind (P.getRa (k := 3) h19 (by decide) (by decide) (by decide)) ?_
      refine GA.bind (P.rI (k := 4) h19 (by decide) (by decide) (by decide)) ?_
      replace hF := okb_some hF
      obtain ⟨h37, hF⟩ := hF
      replace hF := bnd_e hF
      obtain ⟨w40, e41, hF⟩ := hF
      obtain ⟨g38, e39, P⟩ := P.sQ (k := 3) (kd := 5) (j := (hi w29 a0 4)) h19 (by decide) (by decide) (by decide) (by decide) h37 rfl h18 (by decide) e41
      refine GA.bind e39 ?_
      refine GA.bind (P.rI (k := 4) h19 (by decide) (by decide) (by decide)) ?_
      replace hF := bnd_e hF
      obtain ⟨w42, e43, hF⟩ := hF
      obtain ⟨g44, e45, P⟩ := P.putI (k := 4) h19 (by decide) (by decide) (by decide) e43
      refine GA.bind e45 ?_
      refine GA.bind (P.rI (k := 4) h19 (by decide) (by decide) (by decide)) ?_
      obtain ⟨f1, f2, f3, f4⟩ := fnW4 hF
      subst f1
      subst f2
      subst f3; subst f4; exact GA.ret P
    replace hF := ite_f c36 hF
    refine GA.f c36 ?_
    replace hF := ob_some hF
    obtain ⟨p46, h47, hF⟩ := hF
    refine GA.bind (P.getRo (k := 0) h19 (by decide) (by decide) (by decide) h47) ?_
    replace hF := okb_some hF
    obtain ⟨h48, hF⟩ := hF
    replace h48 := P.cls h48
    refine GA.bind (P.rI (k := 3) h48 (by decide) (by decide) (by decide)) ?_
    obtain ⟨f1, f2, f3, f4⟩ := fnW4 hF
    subst f1
    subst f2
    subst f3; subst f4; exact GA.ret P
  replace hF := ite_f c1 hF
  refine GA.f c1 ?_
  obtain ⟨f1, f2, f3, f4⟩ := fnW4 hF
  subst f1
  subst f2
  subst f3; subst f4; exact GA.ret P
def FX8_madeSearch (sz : Nat) (w : HS) (a0 : Nat) : Option (Option Nat × HS × Nat × Nat) :=
  okb (hc w a0 == 8) ((hp w a0 10).elim (bmw 1 16 ((nsX4 w sz).bind fun q15 => bmw q15.2.2.1 q15.2.2.2 (bnd (setP q15.2.1 a0 10 (some sz)) fun w21 =>
  (some ((hp w21 a0 10), w21, 0, 0))))) (fun p1 =>
  some ((hp w a0 10), w, 0, 0)))
set_option maxHeartbeats 4000000 in
set_option maxRecDepth 100000 in
theorem rX8_madeSearch {ar : Nat → Nat → Nat} {c0 : Nat → Nat} {sz : Nat} {g : PH} {w w' : HS} {a0 : Nat} {r : Option Nat} {mc ms : Nat} (P : Rel ar c0 sz g w) (hF : FX8_madeSearch sz w a0 = some (r, w', mc, ms)) : GA ar c0 sz r w' mc ms (fX8_madeSearch sz g a0) := by
  unfold FX8_madeSearch at hF
  unfold fX8_madeSearch
  replace hF := okb_some hF
  obtain ⟨h0, hF⟩ := hF
  replace h0 := P.cls h0
  refine GA.ok (P.rO h0 (by decide)) ?_
  refine GA.bind (P.rQ (k := 10) h0 (by decide) (by decide) (by decide)) ?_
  by_cases h2 : (hp w a0 10) = none
  · replace hF := el_n h2 hF
    refine GA.en h2 ?_
    replace hF := bmw_some hF
    obtain ⟨b3, b4, hF, h7, h8⟩ := hF
    replace hF := ob_some hF
    obtain ⟨q15, h16, hF⟩ := hF
    replace hF := bmw_some hF
    obtain ⟨b5, b6, hF, h9, h10⟩ := hF
    obtain ⟨g11, ar17, cc18, e12, P13, X14, h19⟩ := ctX4 P h16
    refine GA.of h7 h8 ?_
    refine GA.bmp (Ext.rf _ _) ?_
    refine GA.of h9 h10 ?_
    refine GA.bind e12 ?_
    dsimp only
    refine GA.bmp X14 ?_
    clear P
    have P := P13
    have h20 := (X14 _ (by omega)).1.trans h0
    replace hF := bnd_e hF
    obtain ⟨w21, e22, hF⟩ := hF
    obtain ⟨g23, e24, P⟩ := P.putP (k := 10) h20 (by decide) (by decide) (by decide) e22
    refine GA.bind e24 ?_
    refine GA.bind (P.rQ (k := 10) h20 (by decide) (by decide) (by decide)) ?_
    obtain ⟨f1, f2, f3, f4⟩ := fnW4 hF
    subst f1
    subst f2
    subst f3; subst f4; exact GA.ret P
  obtain ⟨p1, h2⟩ := Option.ne_none_iff_exists'.mp h2
  replace hF := el_s h2 hF
  refine GA.es h2 ?_
  refine GA.bind (P.rQ (k := 10) h0 (by decide) (by decide) (by decide)) ?_
  obtain ⟨f1, f2, f3, f4⟩ := fnW4 hF
  subst f1
  subst f2
  subst f3; subst f4; exact GA.ret P
def FX8_least (sz : Nat) (w : HS) (a0 : Nat) (a1 : Int32) : Option (Int32 × HS × Nat × Nat) :=
  okb (hc w a0 == 8) ((FX8_areKinds w a0 a1).bind fun q1 =>
  (if q1.1 = 0 then (some ((-1 : Int32), q1.2, 0, 0)) else
  (if a1 = 0 then (some ((0 : Int32), q1.2, 0, 0)) else
  ((FX8_madeSearch sz q1.2 a0).bind fun q7 =>
  (bmw q7.2.2.1 q7.2.2.2 (q7.1.bind fun p20 =>
  ((FX4_solve q7.2.1 p20 a1 a0).bind fun q22 =>
  ((FX4_answerOf q22.2 p20 a1).bind fun q26 =>
  (some (q26.1, q26.2, 0, 0))))))))))
set_option maxHeartbeats 4000000 in
set_option maxRecDepth 100000 in
theorem rX8_least {ar : Nat → Nat → Nat} {c0 : Nat → Nat} {sz : Nat} {g : PH} {w w' : HS} {a0 : Nat} {a1 : Int32} {r : Int32} {mc ms : Nat} (P : Rel ar c0 sz g w) (hF : FX8_least sz w a0 a1 = some (r, w', mc, ms)) : GA ar c0 sz r w' mc ms (fX8_least sz g a0 a1) := by
  unfold FX8_least at hF
  unfold fX8_least
  replace hF := okb_some hF
  obtain ⟨h0, hF⟩ := hF
  replace h0 := P.cls h0
  refine GA.ok (P.rO h0 (by decide)) ?_
  replace hF := ob_some hF
  obtain ⟨q1, h2, hF⟩ := hF
  obtain ⟨g3, e4, P⟩ := rX8_areKinds (r := q1.1) (w' := q1.2) P h2
  refine GA.bind e4 ?_
  by_cases c5 : q1.1 = 0
  · replace hF := ite_t c5 hF
    refine GA.t c5 ?_
    obtain ⟨f1, f2, f3, f4⟩ := fnW4 hF
    subst f1
    subst f2
    subst f3; subst f4; exact GA.ret P
  replace hF := ite_f c5 hF
  refine GA.f c5 ?_
  by_cases c6 : a1 = 0
  · replace hF := ite_t c6 hF
    refine GA.t c6 ?_
    obtain ⟨f1, f2, f3, f4⟩ := fnW4 hF
    subst f1
    subst f2
    subst f3; subst f4; exact GA.ret P
  replace hF := ite_f c6 hF
  refine GA.f c6 ?_
  replace hF := ob_some hF
  obtain ⟨q7, h10, hF⟩ := hF
  replace hF := bmw_some hF
  obtain ⟨b8, b9, hF, h11, h12⟩ := hF
  obtain ⟨g13, ar17, cc18, e14, P15, X16⟩ := rX8_madeSearch (r := q7.1) (w' := q7.2.1) (mc := q7.2.2.1) (ms := q7.2.2.2) P h10
  refine GA.of h11 h12 ?_
  refine GA.bind e14 ?_
  dsimp only
  refine GA.bmp X16 ?_
  clear P
  have P := P15
  have h19 := (X16 _ (by omega)).1.trans h0
  refine GA.bind (P.getRa (k := 1) h19 (by decide) (by decide) (by decide)) ?_
  replace hF := ob_some hF
  obtain ⟨p20, h21, hF⟩ := hF
  refine GA.bind h21 ?_
  replace hF := ob_some hF
  obtain ⟨q22, h23, hF⟩ := hF
  obtain ⟨g24, e25, P⟩ := rX4_solve (r := q22.1) (w' := q22.2) P h23
  refine GA.bind e25 ?_
  replace hF := ob_some hF
  obtain ⟨q26, h27, hF⟩ := hF
  obtain ⟨g28, e29, P⟩ := rX4_answerOf (r := q26.1) (w' := q26.2) P h27
  refine GA.bind e29 ?_
  obtain ⟨f1, f2, f3, f4⟩ := fnW4 hF
  subst f1
  subst f2
  subst f3; subst f4; exact GA.ret P
def FX8_walk (sz : Nat) (w : HS) (a0 : Nat) (a1 : Int32) (a2 : Int32) : Option (Int32 × HS × Nat × Nat) :=
  okb (hc w a0 == 8) ((FX8_areKinds w a0 a1).bind fun q1 =>
  (if q1.1 = 0 then (some ((-1 : Int32), q1.2, 0, 0)) else
  (if a1 = 0 then (some ((-1 : Int32), q1.2, 0, 0)) else
  (if (-1 : Int32) ≤ a2 then ((FX8_madeSearch sz q1.2 a0).bind fun q8 =>
  (bmw q8.2.2.1 q8.2.2.2 (q8.1.bind fun p21 =>
  ((FX4_solve q8.2.1 p21 a1 a0).bind fun q23 =>
  ((FX4_answerOf q23.2 p21 a1).bind fun q27 =>
  (if 0 < q27.1 then (if a2 = (-1 : Int32) then ((FX4_walkedOp q27.2 p21 a1 (q27.1 - (1 : Int32))).bind fun q33 =>
  (some (((1 : Int32) + (q33.1 / (100 : Int32))), q33.2, 0, 0))) else
  (if q27.1 ≤ a2 then (some ((-2 : Int32), q27.2, 0, 0)) else
  ((FX4_walkedOp q27.2 p21 a1 a2).bind fun q38 =>
  (some (q38.1, q38.2, 0, 0))))) else
  (some ((-1 : Int32), q27.2, 0, 0)))))))) else
  (some ((-1 : Int32), q1.2, 0, 0))))))
set_option maxHeartbeats 4000000 in
set_option maxRecDepth 100000 in
theorem rX8_walk {ar : Nat → Nat → Nat} {c0 : Nat → Nat} {sz : Nat} {g : PH} {w w' : HS} {a0 : Nat} {a1 : Int32} {a2 : Int32} {r : Int32} {mc ms : Nat} (P : Rel ar c0 sz g w) (hF : FX8_walk sz w a0 a1 a2 = some (r, w', mc, ms)) : GA ar c0 sz r w' mc ms (fX8_walk sz g a0 a1 a2) := by
  unfold FX8_walk at hF
  unfold fX8_walk
  replace hF := okb_some hF
  obtain ⟨h0, hF⟩ := hF
  replace h0 := P.cls h0
  refine GA.ok (P.rO h0 (by decide)) ?_
  replace hF := ob_some hF
  obtain ⟨q1, h2, hF⟩ := hF
  obtain ⟨g3, e4, P⟩ := rX8_areKinds (r := q1.1) (w' := q1.2) P h2
  refine GA.bind e4 ?_
  by_cases c5 : q1.1 = 0
  · replace hF := ite_t c5 hF
    refine GA.t c5 ?_
    obtain ⟨f1, f2, f3, f4⟩ := fnW4 hF
    subst f1
    subst f2
    subst f3; subst f4; exact GA.ret P
  replace hF := ite_f c5 hF
  refine GA.f c5 ?_
  by_cases c6 : a1 = 0
  · replace hF := ite_t c6 hF
    refine GA.t c6 ?_
    obtain ⟨f1, f2, f3, f4⟩ := fnW4 hF
    subst f1
    subst f2
    subst f3; subst f4; exact GA.ret P
  replace hF := ite_f c6 hF
  refine GA.f c6 ?_
  by_cases c7 : (-1 : Int32) ≤ a2
  · replace hF := ite_t c7 hF
    refine GA.t c7 ?_
    replace hF := ob_some hF
    obtain ⟨q8, h11, hF⟩ := hF
    replace hF := bmw_some hF
    obtain ⟨b9, b10, hF, h12, h13⟩ := hF
    obtain ⟨g14, ar18, cc19, e15, P16, X17⟩ := rX8_madeSearch (r := q8.1) (w' := q8.2.1) (mc := q8.2.2.1) (ms := q8.2.2.2) P h11
    refine GA.of h12 h13 ?_
    refine GA.bind e15 ?_
    dsimp only
    refine GA.bmp X17 ?_
    clear P
    have P := P16
    have h20 := (X17 _ (by omega)).1.trans h0
    refine GA.bind (P.getRa (k := 1) h20 (by decide) (by decide) (by decide)) ?_
    replace hF := ob_some hF
    obtain ⟨p21, h22, hF⟩ := hF
    refine GA.bind h22 ?_
    replace hF := ob_some hF
    obtain ⟨q23, h24, hF⟩ := hF
    obtain ⟨g25, e26, P⟩ := rX4_solve (r := q23.1) (w' := q23.2) P h24
    refine GA.bind e26 ?_
    replace hF := ob_some hF
    obtain ⟨q27, h28, hF⟩ := hF
    obtain ⟨g29, e30, P⟩ := rX4_answerOf (r := q27.1) (w' := q27.2) P h28
    refine GA.bind e30 ?_
    by_cases c31 : 0 < q27.1
    · replace hF := ite_t c31 hF
      refine GA.t c31 ?_
      by_cases c32 : a2 = (-1 : Int32)
      · replace hF := ite_t c32 hF
        refine GA.t c32 ?_
        replace hF := ob_some hF
        obtain ⟨q33, h34, hF⟩ := hF
        obtain ⟨g35, e36, P⟩ := rX4_walkedOp (r := q33.1) (w' := q33.2) P h34
        refine GA.bind e36 ?_
        obtain ⟨f1, f2, f3, f4⟩ := fnW4 hF
        subst f1
        subst f2
        subst f3; subst f4; exact GA.ret P
      replace hF := ite_f c32 hF
      refine GA.f c32 ?_
      by_cases c37 : q27.1 ≤ a2
      · replace hF := ite_t c37 hF
        refine GA.t c37 ?_
        obtain ⟨f1, f2, f3, f4⟩ := fnW4 hF
        subst f1
        subst f2
        subst f3; subst f4; exact GA.ret P
      replace hF := ite_f c37 hF
      refine GA.f c37 ?_
      replace hF := ob_some hF
      obtain ⟨q38, h39, hF⟩ := hF
      obtain ⟨g40, e41, P⟩ := rX4_walkedOp (r := q38.1) (w' := q38.2) P h39
      refine GA.bind e41 ?_
      obtain ⟨f1, f2, f3, f4⟩ := fnW4 hF
      subst f1
      subst f2
      subst f3; subst f4; exact GA.ret P
    replace hF := ite_f c31 hF
    refine GA.f c31 ?_
    obtain ⟨f1, f2, f3, f4⟩ := fnW4 hF
    subst f1
    subst f2
    subst f3; subst f4; exact GA.ret P
  replace hF := ite_f c7 hF
  refine GA.f c7 ?_
  obtain ⟨f1, f2, f3, f4⟩ := fnW4 hF
  subst f1
  subst f2
  subst f3; subst f4; exact GA.ret P
def FX8_put_67  (w : HS) (sz : Nat) (v0 : Nat) (v1 : Int32) (v2 : Int32) (v3 : Int32) (v4 : Nat) (s0 : Int32) : Option (Int32 × HS × Nat × Nat) :=
  if s0 = 0 then (some ((0 : Int32), w, 0, 0)) else
  ((hp w v0 6).bind fun p2 =>
  ((hp w v0 5).bind fun p4 =>
  ((FX0_keep sz w p2 p4).bind fun q6 =>
  (bmw q6.2.2.1 q6.2.2.2 ((hp q6.2.1 v0 5).bind fun p19 =>
  ((FX3_insert q6.2.1 p19 (some v4) v1 v2 v3).bind fun q21 =>
  (some ((1 : Int32), q21.2, 0, 0))))))))
set_option maxHeartbeats 4000000 in
set_option maxRecDepth 100000 in
theorem rX8_put_67 {ar : Nat → Nat → Nat} {c0 : Nat → Nat} {sz : Nat} {r : Int32} {w' : HS}   {g : PH} {w : HS} {v0 : Nat} {v1 : Int32} {v2 : Int32} {v3 : Int32} {v4 : Nat} {s0 : Int32} {mc ms : Nat} (h0 : c0 v0 = 8) (P : Rel ar c0 sz g w) (hF : FX8_put_67  w sz v0 v1 v2 v3 v4 s0 = some (r, w', mc, ms)) : GA ar c0 sz r w' mc ms (fX8_put_67  g sz v0 v1 v2 v3 v4 s0) := by
  unfold FX8_put_67 at hF
  unfold fX8_put_67
  by_cases c1 : s0 = 0
  · replace hF := ite_t c1 hF
    refine GA.t c1 ?_
    obtain ⟨f1, f2, f3, f4⟩ := fnW4 hF
    subst f1
    subst f2
    subst f3; subst f4; exact GA.ret P
  replace hF := ite_f c1 hF
  refine GA.f c1 ?_
  replace hF := ob_some hF
  obtain ⟨p2, h3, hF⟩ := hF
  refine GA.bind (P.getRo (k := 6) h0 (by decide) (by decide) (by decide) h3) ?_
  replace hF := ob_some hF
  obtain ⟨p4, h5, hF⟩ := hF
  refine GA.bind (P.getRo (k := 5) h0 (by decide) (by decide) (by decide) h5) ?_
  replace hF := ob_some hF
  obtain ⟨q6, h9, hF⟩ := hF
  replace hF := bmw_some hF
  obtain ⟨b7, b8, hF, h10, h11⟩ := hF
  obtain ⟨g12, ar16, cc17, e13, P14, X15⟩ := rX0_keep (r := q6.1) (w' := q6.2.1) (mc := q6.2.2.1) (ms := q6.2.2.2) P h9
  refine GA.of h10 h11 ?_
  refine GA.bind e13 ?_
  dsimp only
  refine GA.bmp X15 ?_
  clear P
  have P := P14
  have h18 := (X15 _ (by omega)).1.trans h0
  replace hF := ob_some hF
  obtain ⟨p19, h20, hF⟩ := hF
  refine GA.bind (P.getRo (k := 5) h18 (by decide) (by decide) (by decide) h20) ?_
  replace hF := ob_some hF
  obtain ⟨q21, h22, hF⟩ := hF
  obtain ⟨g23, e24, P⟩ := rX3_insert (r := q21.1) (w' := q21.2) P h22
  refine GA.bind e24 ?_
  obtain ⟨f1, f2, f3, f4⟩ := fnW4 hF
  subst f1
  subst f2
  subst f3; subst f4; exact GA.ret P
def FX8_put_53  (w : HS) (sz : Nat) (v0 : Nat) (v1 : Int32) (v2 : Int32) (v3 : Int32) (v4 : Nat) : Option (Int32 × HS × Nat × Nat) :=
  FX8_put_67 w sz v0 v1 v2 v3 v4 (0 : Int32)
set_option maxHeartbeats 4000000 in
set_option maxRecDepth 100000 in
theorem rX8_put_53 {ar : Nat → Nat → Nat} {c0 : Nat → Nat} {sz : Nat} {r : Int32} {w' : HS}   {g : PH} {w : HS} {v0 : Nat} {v1 : Int32} {v2 : Int32} {v3 : Int32} {v4 : Nat} {mc ms : Nat} (h0 : c0 v0 = 8) (P : Rel ar c0 sz g w) (hF : FX8_put_53  w sz v0 v1 v2 v3 v4 = some (r, w', mc, ms)) : GA ar c0 sz r w' mc ms (fX8_put_53  g sz v0 v1 v2 v3 v4) := by
  unfold FX8_put_53 at hF
  unfold fX8_put_53
  exact rX8_put_67  h0 P hF
def FX8_put (sz : Nat) (w : HS) (a0 : Nat) (a1 : Int32) (a2 : Int32) (a3 : Int32) : Option (Int32 × HS × Nat × Nat) :=
  okb (hc w a0 == 8) ((FX8_kindAt w a0 a1).bind fun q1 =>
  (q1.1.elim (some ((0 : Int32), q1.2, 0, 0)) (fun p5 =>
  (hp q1.2 a0 5).bind fun p7 =>
  ((FX3_hasCell q1.2 p7 a3).bind fun q9 =>
  (if q9.1 = 0 then (some ((0 : Int32), q9.2, 0, 0)) else
  (okb (hc q9.2 p5 == 1) (if (hi q9.2 p5 1) = 0 then (if a2 = (-1 : Int32) then (FX8_put_67 q9.2 sz a0 a1 a2 a3 p5 (1 : Int32)) else
  (FX8_put_67 q9.2 sz a0 a1 a2 a3 p5 (0 : Int32))) else
  ((hp q9.2 a0 5).bind fun p17 =>
  ((FX3_hasCell q9.2 p17 a2).bind fun q19 =>
  (if q19.1 = 0 then (FX8_put_53 q19.2 sz a0 a1 a2 a3 p5) else
  (if a2 = a3 then (FX8_put_53 q19.2 sz a0 a1 a2 a3 p5) else
  (FX8_put_67 q19.2 sz a0 a1 a2 a3 p5 (1 : Int32)))))))))))))
set_option maxHeartbeats 4000000 in
set_option maxRecDepth 100000 in
theorem rX8_put {ar : Nat → Nat → Nat} {c0 : Nat → Nat} {sz : Nat} {g : PH} {w w' : HS} {a0 : Nat} {a1 : Int32} {a2 : Int32} {a3 : Int32} {r : Int32} {mc ms : Nat} (P : Rel ar c0 sz g w) (hF : FX8_put sz w a0 a1 a2 a3 = some (r, w', mc, ms)) : GA ar c0 sz r w' mc ms (fX8_put sz g a0 a1 a2 a3) := by
  unfold FX8_put at hF
  unfold fX8_put
  replace hF := okb_some hF
  obtain ⟨h0, hF⟩ := hF
  replace h0 := P.cls h0
  refine GA.ok (P.rO h0 (by decide)) ?_
  replace hF := ob_some hF
  obtain ⟨q1, h2, hF⟩ := hF
  obtain ⟨g3, e4, P⟩ := rX8_kindAt (r := q1.1) (w' := q1.2) P h2
  refine GA.bind e4 ?_
  dsimp only
  by_cases h6 : q1.1 = none
  · replace hF := el_n h6 hF
    refine GA.en h6 ?_
    obtain ⟨f1, f2, f3, f4⟩ := fnW4 hF
    subst f1
    subst f2
    subst f3; subst f4; exact GA.ret P
  obtain ⟨p5, h6⟩ := Option.ne_none_iff_exists'.mp h6
  replace hF := el_s h6 hF
  refine GA.es h6 ?_
  replace hF := ob_some hF
  obtain ⟨p7, h8, hF⟩ := hF
  refine GA.bind (P.getRo (k := 5) h0 (by decide) (by decide) (by decide) h8) ?_
  replace hF := ob_some hF
  obtain ⟨q9, h10, hF⟩ := hF
  obtain ⟨g11, e12, P⟩ := rX3_hasCell (r := q9.1) (w' := q9.2) P h10
  refine GA.bind e12 ?_
  by_cases c13 : q9.1 = 0
  · replace hF := ite_t c13 hF
    refine GA.t c13 ?_
    obtain ⟨f1, f2, f3, f4⟩ := fnW4 hF
    subst f1
    subst f2
    subst f3; subst f4; exact GA.ret P
  replace hF := ite_f c13 hF
  refine GA.f c13 ?_
  replace hF := okb_some hF
  obtain ⟨h14, hF⟩ := hF
  replace h14 := P.cls h14
  refine GA.bind (P.rI (k := 1) h14 (by decide) (by decide) (by decide)) ?_
  by_cases c15 : (hi q9.2 p5 1) = 0
  · replace hF := ite_t c15 hF
    refine GA.t c15 ?_
    by_cases c16 : a2 = (-1 : Int32)
    · replace hF := ite_t c16 hF
      refine GA.t c16 ?_
      exact rX8_put_67  h0 P hF
    replace hF := ite_f c16 hF
    refine GA.f c16 ?_
    exact rX8_put_67  h0 P hF
  replace hF := ite_f c15 hF
  refine GA.f c15 ?_
  replace hF := ob_some hF
  obtain ⟨p17, h18, hF⟩ := hF
  refine GA.bind (P.getRo (k := 5) h0 (by decide) (by decide) (by decide) h18) ?_
  replace hF := ob_some hF
  obtain ⟨q19, h20, hF⟩ := hF
  obtain ⟨g21, e22, P⟩ := rX3_hasCell (r := q19.1) (w' := q19.2) P h20
  refine GA.bind e22 ?_
  by_cases c23 : q19.1 = 0
  · replace hF := ite_t c23 hF
    refine GA.t c23 ?_
    exact rX8_put_53  h0 P hF
  replace hF := ite_f c23 hF
  refine GA.f c23 ?_
  by_cases c24 : a2 = a3
  · replace hF := ite_t c24 hF
    refine GA.t c24 ?_
    exact rX8_put_53  h0 P hF
  replace hF := ite_f c24 hF
  refine GA.f c24 ?_
  exact rX8_put_67  h0 P hF
def FX8_heal (sz : Nat) (w : HS) (a0 : Nat) : Option (Int32 × HS × Nat × Nat) :=
  okb (hc w a0 == 8) ((hp w a0 5).bind fun p1 =>
  (okb (hc w p1 == 3) ((hp w p1 2).elim (some ((0 : Int32), w, 0, 0)) (fun p4 =>
  (hp w a0 6).bind fun p6 =>
  ((hp w a0 5).bind fun p8 =>
  ((FX0_keep sz w p6 p8).bind fun q10 =>
  (bmw q10.2.2.1 q10.2.2.2 ((hp q10.2.1 a0 5).bind fun p24 =>
  ((FX3_insert q10.2.1 p24 none (-1 : Int32) (-1 : Int32) (-1 : Int32)).bind fun q26 =>
  (some ((1 : Int32), q26.2, 0, 0)))))))))))
set_option maxHeartbeats 4000000 in
set_option maxRecDepth 100000 in
theorem rX8_heal {ar : Nat → Nat → Nat} {c0 : Nat → Nat} {sz : Nat} {g : PH} {w w' : HS} {a0 : Nat} {r : Int32} {mc ms : Nat} (P : Rel ar c0 sz g w) (hF : FX8_heal sz w a0 = some (r, w', mc, ms)) : GA ar c0 sz r w' mc ms (fX8_heal sz g a0) := by
  unfold FX8_heal at hF
  unfold fX8_heal
  replace hF := okb_some hF
  obtain ⟨h0, hF⟩ := hF
  replace h0 := P.cls h0
  refine GA.ok (P.rO h0 (by decide)) ?_
  replace hF := ob_some hF
  obtain ⟨p1, h2, hF⟩ := hF
  refine GA.bind (P.getRo (k := 5) h0 (by decide) (by decide) (by decide) h2) ?_
  replace hF := okb_some hF
  obtain ⟨h3, hF⟩ := hF
  replace h3 := P.cls h3
  refine GA.bind (P.rQ (k := 2) h3 (by decide) (by decide) (by decide)) ?_
  by_cases h5 : (hp w p1 2) = none
  · replace hF := el_n h5 hF
    refine GA.en h5 ?_
    obtain ⟨f1, f2, f3, f4⟩ := fnW4 hF
    subst f1
    subst f2
    subst f3; subst f4; exact GA.ret P
  obtain ⟨p4, h5⟩ := Option.ne_none_iff_exists'.mp h5
  replace hF := el_s h5 hF
  refine GA.es h5 ?_
  replace hF := ob_some hF
  obtain ⟨p6, h7, hF⟩ := hF
  refine GA.bind (P.getRo (k := 6) h0 (by decide) (by decide) (by decide) h7) ?_
  replace hF := ob_some hF
  obtain ⟨p8, h9, hF⟩ := hF
  refine GA.bind (P.getRo (k := 5) h0 (by decide) (by decide) (by decide) h9) ?_
  replace hF := ob_some hF
  obtain ⟨q10, h13, hF⟩ := hF
  replace hF := bmw_some hF
  obtain ⟨b11, b12, hF, h14, h15⟩ := hF
  obtain ⟨g16, ar20, cc21, e17, P18, X19⟩ := rX0_keep (r := q10.1) (w' := q10.2.1) (mc := q10.2.2.1) (ms := q10.2.2.2) P h13
  refine GA.of h14 h15 ?_
  refine GA.bind e17 ?_
  dsimp only
  refine GA.bmp X19 ?_
  clear P
  have P := P18
  have h22 := (X19 _ (by omega)).1.trans h0
  have h23 := (X19 _ (by omega)).1.trans h3
  replace hF := ob_some hF
  obtain ⟨p24, h25, hF⟩ := hF
  refine GA.bind (P.getRo (k := 5) h22 (by decide) (by decide) (by decide) h25) ?_
  replace hF := ob_some hF
  obtain ⟨q26, h27, hF⟩ := hF
  obtain ⟨g28, e29, P⟩ := rX3_insert (r := q26.1) (w' := q26.2) P h27
  refine GA.bind e29 ?_
  obtain ⟨f1, f2, f3, f4⟩ := fnW4 hF
  subst f1
  subst f2
  subst f3; subst f4; exact GA.ret P
def FX8_tell (sz : Nat) (w : HS) (a0 : Nat) (a1 : Int32) : Option (Int32 × HS × Nat × Nat) :=
  okb (hc w a0 == 8) (if a1 < 0 then (some ((-1 : Int32), w, 0, 0)) else
  ((hp w a0 5).bind fun p2 =>
  (okb (hc w p2 == 3) (if a1 < ((1 : Int32) <<< ((hi w p2 0) &&& 31)) then ((hp w a0 6).bind fun p6 =>
  ((hp w a0 5).bind fun p8 =>
  ((FX0_keep sz w p6 p8).bind fun q10 =>
  (bmw q10.2.2.1 q10.2.2.2 ((hp q10.2.1 a0 5).bind fun p24 =>
  (okb (hc q10.2.1 p24 == 3) ((hp q10.2.1 a0 5).bind fun p27 =>
  ((FX3_fill q10.2.1 p27 a1).bind fun q29 =>
  (some ((hi q10.2.1 p24 1), q29.2, 0, 0)))))))))) else
  (some ((-1 : Int32), w, 0, 0))))))
set_option maxHeartbeats 4000000 in
set_option maxRecDepth 100000 in
theorem rX8_tell {ar : Nat → Nat → Nat} {c0 : Nat → Nat} {sz : Nat} {g : PH} {w w' : HS} {a0 : Nat} {a1 : Int32} {r : Int32} {mc ms : Nat} (P : Rel ar c0 sz g w) (hF : FX8_tell sz w a0 a1 = some (r, w', mc, ms)) : GA ar c0 sz r w' mc ms (fX8_tell sz g a0 a1) := by
  unfold FX8_tell at hF
  unfold fX8_tell
  replace hF := okb_some hF
  obtain ⟨h0, hF⟩ := hF
  replace h0 := P.cls h0
  refine GA.ok (P.rO h0 (by decide)) ?_
  by_cases c1 : a1 < 0
  · replace hF := ite_t c1 hF
    refine GA.t c1 ?_
    obtain ⟨f1, f2, f3, f4⟩ := fnW4 hF
    subst f1
    subst f2
    subst f3; subst f4; exact GA.ret P
  replace hF := ite_f c1 hF
  refine GA.f c1 ?_
  replace hF := ob_some hF
  obtain ⟨p2, h3, hF⟩ := hF
  refine GA.bind (P.getRo (k := 5) h0 (by decide) (by decide) (by decide) h3) ?_
  replace hF := okb_some hF
  obtain ⟨h4, hF⟩ := hF
  replace h4 := P.cls h4
  refine GA.bind (P.rI (k := 0) h4 (by decide) (by decide) (by decide)) ?_
  by_cases c5 : a1 < ((1 : Int32) <<< ((hi w p2 0) &&& 31))
  · replace hF := ite_t c5 hF
    refine GA.t c5 ?_
    replace hF := ob_some hF
    obtain ⟨p6, h7, hF⟩ := hF
    refine GA.bind (P.getRo (k := 6) h0 (by decide) (by decide) (by decide) h7) ?_
    replace hF := ob_some hF
    obtain ⟨p8, h9, hF⟩ := hF
    refine GA.bind (P.getRo (k := 5) h0 (by decide) (by decide) (by decide) h9) ?_
    replace hF := ob_some hF
    obtain ⟨q10, h13, hF⟩ := hF
    replace hF := bmw_some hF
    obtain ⟨b11, b12, hF, h14, h15⟩ := hF
    obtain ⟨g16, ar20, cc21, e17, P18, X19⟩ := rX0_keep (r := q10.1) (w' := q10.2.1) (mc := q10.2.2.1) (ms := q10.2.2.2) P h13
    refine GA.of h14 h15 ?_
    refine GA.bind e17 ?_
    dsimp only
    refine GA.bmp X19 ?_
    clear P
    have P := P18
    have h22 := (X19 _ (by omega)).1.trans h0
    have h23 := (X19 _ (by omega)).1.trans h4
    replace hF := ob_some hF
    obtain ⟨p24, h25, hF⟩ := hF
    refine GA.bind (P.getRo (k := 5) h22 (by decide) (by decide) (by decide) h25) ?_
    replace hF := okb_some hF
    obtain ⟨h26, hF⟩ := hF
    replace h26 := P.cls h26
    refine GA.bind (P.rI (k := 1) h26 (by decide) (by decide) (by decide)) ?_
    replace hF := ob_some hF
    obtain ⟨p27, h28, hF⟩ := hF
    refine GA.bind (P.getRo (k := 5) h22 (by decide) (by decide) (by decide) h28) ?_
    replace hF := ob_some hF
    obtain ⟨q29, h30, hF⟩ := hF
    obtain ⟨g31, e32, P⟩ := rX3_fill (r := q29.1) (w' := q29.2) P h30
    refine GA.bind e32 ?_
    obtain ⟨f1, f2, f3, f4⟩ := fnW4 hF
    subst f1
    subst f2
    subst f3; subst f4; exact GA.ret P
  replace hF := ite_f c5 hF
  refine GA.f c5 ?_
  obtain ⟨f1, f2, f3, f4⟩ := fnW4 hF
  subst f1
  subst f2
  subst f3; subst f4; exact GA.ret P
def FX8_write (sz : Nat) (w : HS) (a0 : Nat) (a1 : Int32) (a2 : Int32) : Option (Int32 × HS × Nat × Nat) :=
  okb (hc w a0 == 8) ((hp w a0 5).bind fun p1 =>
  ((FX3_hasCell w p1 a1).bind fun q3 =>
  (if q3.1 = 0 then (some ((-1 : Int32), q3.2, 0, 0)) else
  (if a2 < 0 then (some ((-1 : Int32), q3.2, 0, 0)) else
  (if a2 ≤ (1 : Int32) then ((hp q3.2 a0 6).bind fun p10 =>
  ((hp q3.2 a0 5).bind fun p12 =>
  ((FX0_keep sz q3.2 p10 p12).bind fun q14 =>
  (bmw q14.2.2.1 q14.2.2.2 ((hp q14.2.1 a0 5).bind fun p27 =>
  ((FX3_operate q14.2.1 p27 a1 ((1 : Int32) + a2)).bind fun q29 =>
  ((hp q29.2 a0 5).bind fun p33 =>
  (okb (hc q29.2 p33 == 3) (some ((hi q29.2 p33 1), q29.2, 0, 0)))))))))) else
  (some ((-1 : Int32), q3.2, 0, 0)))))))
set_option maxHeartbeats 4000000 in
set_option maxRecDepth 100000 in
theorem rX8_write {ar : Nat → Nat → Nat} {c0 : Nat → Nat} {sz : Nat} {g : PH} {w w' : HS} {a0 : Nat} {a1 : Int32} {a2 : Int32} {r : Int32} {mc ms : Nat} (P : Rel ar c0 sz g w) (hF : FX8_write sz w a0 a1 a2 = some (r, w', mc, ms)) : GA ar c0 sz r w' mc ms (fX8_write sz g a0 a1 a2) := by
  unfold FX8_write at hF
  unfold fX8_write
  replace hF := okb_some hF
  obtain ⟨h0, hF⟩ := hF
  replace h0 := P.cls h0
  refine GA.ok (P.rO h0 (by decide)) ?_
  replace hF := ob_some hF
  obtain ⟨p1, h2, hF⟩ := hF
  refine GA.bind (P.getRo (k := 5) h0 (by decide) (by decide) (by decide) h2) ?_
  replace hF := ob_some hF
  obtain ⟨q3, h4, hF⟩ := hF
  obtain ⟨g5, e6, P⟩ := rX3_hasCell (r := q3.1) (w' := q3.2) P h4
  refine GA.bind e6 ?_
  by_cases c7 : q3.1 = 0
  · replace hF := ite_t c7 hF
    refine GA.t c7 ?_
    obtain ⟨f1, f2, f3, f4⟩ := fnW4 hF
    subst f1
    subst f2
    subst f3; subst f4; exact GA.ret P
  replace hF := ite_f c7 hF
  refine GA.f c7 ?_
  by_cases c8 : a2 < 0
  · replace hF := ite_t c8 hF
    refine GA.t c8 ?_
    obtain ⟨f1, f2, f3, f4⟩ := fnW4 hF
    subst f1
    subst f2
    subst f3; subst f4; exact GA.ret P
  replace hF := ite_f c8 hF
  refine GA.f c8 ?_
  by_cases c9 : a2 ≤ (1 : Int32)
  · replace hF := ite_t c9 hF
    refine GA.t c9 ?_
    replace hF := ob_some hF
    obtain ⟨p10, h11, hF⟩ := hF
    refine GA.bind (P.getRo (k := 6) h0 (by decide) (by decide) (by decide) h11) ?_
    replace hF := ob_some hF
    obtain ⟨p12, h13, hF⟩ := hF
    refine GA.bind (P.getRo (k := 5) h0 (by decide) (by decide) (by decide) h13) ?_
    replace hF := ob_some hF
    obtain ⟨q14, h17, hF⟩ := hF
    replace hF := bmw_some hF
    obtain ⟨b15, b16, hF, h18, h19⟩ := hF
    obtain ⟨g20, ar24, cc25, e21, P22, X23⟩ := rX0_keep (r := q14.1) (w' := q14.2.1) (mc := q14.2.2.1) (ms := q14.2.2.2) P h17
    refine GA.of h18 h19 ?_
    refine GA.bind e21 ?_
    dsimp only
    refine GA.bmp X23 ?_
    clear P
    have P := P22
    have h26 := (X23 _ (by omega)).1.trans h0
    replace hF := ob_some hF
    obtain ⟨p27, h28, hF⟩ := hF
    refine GA.bind (P.getRo (k := 5) h26 (by decide) (by decide) (by decide) h28) ?_
    replace hF := ob_some hF
    obtain ⟨q29, h30, hF⟩ := hF
    obtain ⟨g31, e32, P⟩ := rX3_operate (r := q29.1) (w' := q29.2) P h30
    refine GA.bind e32 ?_
    replace hF := ob_some hF
    obtain ⟨p33, h34, hF⟩ := hF
    refine GA.bind (P.getRo (k := 5) h26 (by decide) (by decide) (by decide) h34) ?_
    replace hF := okb_some hF
    obtain ⟨h35, hF⟩ := hF
    replace h35 := P.cls h35
    refine GA.bind (P.rI (k := 1) h35 (by decide) (by decide) (by decide)) ?_
    obtain ⟨f1, f2, f3, f4⟩ := fnW4 hF
    subst f1
    subst f2
    subst f3; subst f4; exact GA.ret P
  replace hF := ite_f c9 hF
  refine GA.f c9 ?_
  obtain ⟨f1, f2, f3, f4⟩ := fnW4 hF
  subst f1
  subst f2
  subst f3; subst f4; exact GA.ret P
def FX8_read (sz : Nat) (w : HS) (a0 : Nat) (a1 : Int32) : Option (Int32 × HS × Nat × Nat) :=
  okb (hc w a0 == 8) ((hp w a0 5).bind fun p1 =>
  ((FX3_hasCell w p1 a1).bind fun q3 =>
  (if q3.1 = 0 then (some ((-1 : Int32), q3.2, 0, 0)) else
  ((hp q3.2 a0 6).bind fun p8 =>
  ((hp q3.2 a0 5).bind fun p10 =>
  ((FX0_keep sz q3.2 p8 p10).bind fun q12 =>
  (bmw q12.2.2.1 q12.2.2.2 ((hp q12.2.1 a0 5).bind fun p25 =>
  ((FX3_operate q12.2.1 p25 a1 (0 : Int32)).bind fun q27 =>
  (some (q27.1, q27.2, 0, 0)))))))))))
set_option maxHeartbeats 4000000 in
set_option maxRecDepth 100000 in
theorem rX8_read {ar : Nat → Nat → Nat} {c0 : Nat → Nat} {sz : Nat} {g : PH} {w w' : HS} {a0 : Nat} {a1 : Int32} {r : Int32} {mc ms : Nat} (P : Rel ar c0 sz g w) (hF : FX8_read sz w a0 a1 = some (r, w', mc, ms)) : GA ar c0 sz r w' mc ms (fX8_read sz g a0 a1) := by
  unfold FX8_read at hF
  unfold fX8_read
  replace hF := okb_some hF
  obtain ⟨h0, hF⟩ := hF
  replace h0 := P.cls h0
  refine GA.ok (P.rO h0 (by decide)) ?_
  replace hF := ob_some hF
  obtain ⟨p1, h2, hF⟩ := hF
  refine GA.bind (P.getRo (k := 5) h0 (by decide) (by decide) (by decide) h2) ?_
  replace hF := ob_some hF
  obtain ⟨q3, h4, hF⟩ := hF
  obtain ⟨g5, e6, P⟩ := rX3_hasCell (r := q3.1) (w' := q3.2) P h4
  refine GA.bind e6 ?_
  by_cases c7 : q3.1 = 0
  · replace hF := ite_t c7 hF
    refine GA.t c7 ?_
    obtain ⟨f1, f2, f3, f4⟩ := fnW4 hF
    subst f1
    subst f2
    subst f3; subst f4; exact GA.ret P
  replace hF := ite_f c7 hF
  refine GA.f c7 ?_
  replace hF := ob_some hF
  obtain ⟨p8, h9, hF⟩ := hF
  refine GA.bind (P.getRo (k := 6) h0 (by decide) (by decide) (by decide) h9) ?_
  replace hF := ob_some hF
  obtain ⟨p10, h11, hF⟩ := hF
  refine GA.bind (P.getRo (k := 5) h0 (by decide) (by decide) (by decide) h11) ?_
  replace hF := ob_some hF
  obtain ⟨q12, h15, hF⟩ := hF
  replace hF := bmw_some hF
  obtain ⟨b13, b14, hF, h16, h17⟩ := hF
  obtain ⟨g18, ar22, cc23, e19, P20, X21⟩ := rX0_keep (r := q12.1) (w' := q12.2.1) (mc := q12.2.2.1) (ms := q12.2.2.2) P h15
  refine GA.of h16 h17 ?_
  refine GA.bind e19 ?_
  dsimp only
  refine GA.bmp X21 ?_
  clear P
  have P := P20
  have h24 := (X21 _ (by omega)).1.trans h0
  replace hF := ob_some hF
  obtain ⟨p25, h26, hF⟩ := hF
  refine GA.bind (P.getRo (k := 5) h24 (by decide) (by decide) (by decide) h26) ?_
  replace hF := ob_some hF
  obtain ⟨q27, h28, hF⟩ := hF
  obtain ⟨g29, e30, P⟩ := rX3_operate (r := q27.1) (w' := q27.2) P h28
  refine GA.bind e30 ?_
  obtain ⟨f1, f2, f3, f4⟩ := fnW4 hF
  subst f1
  subst f2
  subst f3; subst f4; exact GA.ret P
def FX8_run (sz : Nat) (w : HS) (a0 : Nat) (a1 : Int32) (a2 : Int32) : Option (Int32 × HS × Nat × Nat) :=
  okb (hc w a0 == 8) ((FX8_marchAt w a0 a1).bind fun q1 =>
  (q1.1.elim (some ((-1 : Int32), q1.2, 0, 0)) (fun p5 =>
  if a2 < 0 then (some ((-1 : Int32), q1.2, 0, 0)) else
  (if a2 < (8 : Int32) then ((hp q1.2 a0 6).bind fun p9 =>
  ((hp q1.2 a0 5).bind fun p11 =>
  ((FX0_keep sz q1.2 p9 p11).bind fun q13 =>
  (bmw q13.2.2.1 q13.2.2.2 ((hp q13.2.1 a0 5).bind fun p26 =>
  ((FX3_goThrough q13.2.1 p26 p5 a1 a2).bind fun q28 =>
  ((hp q28.2 a0 5).bind fun p32 =>
  (okb (hc q28.2 p32 == 3) (some ((hi q28.2 p32 8), q28.2, 0, 0)))))))))) else
  (some ((-1 : Int32), q1.2, 0, 0))))))
set_option maxHeartbeats 4000000 in
set_option maxRecDepth 100000 in
theorem rX8_run {ar : Nat → Nat → Nat} {c0 : Nat → Nat} {sz : Nat} {g : PH} {w w' : HS} {a0 : Nat} {a1 : Int32} {a2 : Int32} {r : Int32} {mc ms : Nat} (P : Rel ar c0 sz g w) (hF : FX8_run sz w a0 a1 a2 = some (r, w', mc, ms)) : GA ar c0 sz r w' mc ms (fX8_run sz g a0 a1 a2) := by
  unfold FX8_run at hF
  unfold fX8_run
  replace hF := okb_some hF
  obtain ⟨h0, hF⟩ := hF
  replace h0 := P.cls h0
  refine GA.ok (P.rO h0 (by decide)) ?_
  replace hF := ob_some hF
  obtain ⟨q1, h2, hF⟩ := hF
  obtain ⟨g3, e4, P⟩ := rX8_marchAt (r := q1.1) (w' := q1.2) P h2
  refine GA.bind e4 ?_
  dsimp only
  by_cases h6 : q1.1 = none
  · replace hF := el_n h6 hF
    refine GA.en h6 ?_
    obtain ⟨f1, f2, f3, f4⟩ := fnW4 hF
    subst f1
    subst f2
    subst f3; subst f4; exact GA.ret P
  obtain ⟨p5, h6⟩ := Option.ne_none_iff_exists'.mp h6
  replace hF := el_s h6 hF
  refine GA.es h6 ?_
  by_cases c7 : a2 < 0
  · replace hF := ite_t c7 hF
    refine GA.t c7 ?_
    obtain ⟨f1, f2, f3, f4⟩ := fnW4 hF
    subst f1
    subst f2
    subst f3; subst f4; exact GA.ret P
  replace hF := ite_f c7 hF
  refine GA.f c7 ?_
  by_cases c8 : a2 < (8 : Int32)
  · replace hF := ite_t c8 hF
    refine GA.t c8 ?_
    replace hF := ob_some hF
    obtain ⟨p9, h10, hF⟩ := hF
    refine GA.bind (P.getRo (k := 6) h0 (by decide) (by decide) (by decide) h10) ?_
    replace hF := ob_some hF
    obtain ⟨p11, h12, hF⟩ := hF
    refine GA.bind (P.getRo (k := 5) h0 (by decide) (by decide) (by decide) h12) ?_
    replace hF := ob_some hF
    obtain ⟨q13, h16, hF⟩ := hF
    replace hF := bmw_some hF
    obtain ⟨b14, b15, hF, h17, h18⟩ := hF
    obtain ⟨g19, ar23, cc24, e20, P21, X22⟩ := rX0_keep (r := q13.1) (w' := q13.2.1) (mc := q13.2.2.1) (ms := q13.2.2.2) P h16
    refine GA.of h17 h18 ?_
    refine GA.bind e20 ?_
    dsimp only
    refine GA.bmp X22 ?_
    clear P
    have P := P21
    have h25 := (X22 _ (by omega)).1.trans h0
    replace hF := ob_some hF
    obtain ⟨p26, h27, hF⟩ := hF
    refine GA.bind (P.getRo (k := 5) h25 (by decide) (by decide) (by decide) h27) ?_
    replace hF := ob_some hF
    obtain ⟨q28, h29, hF⟩ := hF
    obtain ⟨g30, e31, P⟩ := rX3_goThrough (r := q28.1) (w' := q28.2) P h29
    refine GA.bind e31 ?_
    replace hF := ob_some hF
    obtain ⟨p32, h33, hF⟩ := hF
    refine GA.bind (P.getRo (k := 5) h25 (by decide) (by decide) (by decide) h33) ?_
    replace hF := okb_some hF
    obtain ⟨h34, hF⟩ := hF
    replace h34 := P.cls h34
    refine GA.bind (P.rI (k := 8) h34 (by decide) (by decide) (by decide)) ?_
    obtain ⟨f1, f2, f3, f4⟩ := fnW4 hF
    subst f1
    subst f2
    subst f3; subst f4; exact GA.ret P
  replace hF := ite_f c8 hF
  refine GA.f c8 ?_
  obtain ⟨f1, f2, f3, f4⟩ := fnW4 hF
  subst f1
  subst f2
  subst f3; subst f4; exact GA.ret P
def FX8_layout (sz : Nat) (w : HS) (a0 : Nat) (a1 : Int32) (a2 : Int32) : Option (Int32 × HS × Nat × Nat) :=
  okb (hc w a0 == 8) ((hp w a0 5).bind fun p1 =>
  ((FX3_hasCell w p1 a1).bind fun q3 =>
  (if q3.1 = 0 then (some ((-1 : Int32), q3.2, 0, 0)) else
  ((hp q3.2 a0 5).bind fun p8 =>
  ((FX3_hasCell q3.2 p8 a2).bind fun q10 =>
  (if q10.1 = 0 then (some ((-1 : Int32), q10.2, 0, 0)) else
  (if a1 = a2 then (some ((-1 : Int32), q10.2, 0, 0)) else
  ((hp q10.2 a0 6).bind fun p16 =>
  ((hp q10.2 a0 5).bind fun p18 =>
  ((FX0_keep sz q10.2 p16 p18).bind fun q20 =>
  (bmw q20.2.2.1 q20.2.2.2 ((hp q20.2.1 a0 5).bind fun p33 =>
  ((FX3_exchange q20.2.1 p33 a1 a2).bind fun q35 =>
  ((hp q35.2 a0 5).bind fun p39 =>
  ((FX3_cellOf q35.2 p39 a1).bind fun q41 =>
  (some (q41.1, q41.2, 0, 0)))))))))))))))))
set_option maxHeartbeats 4000000 in
set_option maxRecDepth 100000 in
theorem rX8_layout {ar : Nat → Nat → Nat} {c0 : Nat → Nat} {sz : Nat} {g : PH} {w w' : HS} {a0 : Nat} {a1 : Int32} {a2 : Int32} {r : Int32} {mc ms : Nat} (P : Rel ar c0 sz g w) (hF : FX8_layout sz w a0 a1 a2 = some (r, w', mc, ms)) : GA ar c0 sz r w' mc ms (fX8_layout sz g a0 a1 a2) := by
  unfold FX8_layout at hF
  unfold fX8_layout
  replace hF := okb_some hF
  obtain ⟨h0, hF⟩ := hF
  replace h0 := P.cls h0
  refine GA.ok (P.rO h0 (by decide)) ?_
  replace hF := ob_some hF
  obtain ⟨p1, h2, hF⟩ := hF
  refine GA.bind (P.getRo (k := 5) h0 (by decide) (by decide) (by decide) h2) ?_
  replace hF := ob_some hF
  obtain ⟨q3, h4, hF⟩ := hF
  obtain ⟨g5, e6, P⟩ := rX3_hasCell (r := q3.1) (w' := q3.2) P h4
  refine GA.bind e6 ?_
  by_cases c7 : q3.1 = 0
  · replace hF := ite_t c7 hF
    refine GA.t c7 ?_
    obtain ⟨f1, f2, f3, f4⟩ := fnW4 hF
    subst f1
    subst f2
    subst f3; subst f4; exact GA.ret P
  replace hF := ite_f c7 hF
  refine GA.f c7 ?_
  replace hF := ob_some hF
  obtain ⟨p8, h9, hF⟩ := hF
  refine GA.bind (P.getRo (k := 5) h0 (by decide) (by decide) (by decide) h9) ?_
  replace hF := ob_some hF
  obtain ⟨q10, h11, hF⟩ := hF
  obtain ⟨g12, e13, P⟩ := rX3_hasCell (r := q10.1) (w' := q10.2) P h11
  refine GA.bind e13 ?_
  by_cases c14 : q10.1 = 0
  · replace hF := ite_t c14 hF
    refine GA.t c14 ?_
    obtain ⟨f1, f2, f3, f4⟩ := fnW4 hF
    subst f1
    subst f2
    subst f3; subst f4; exact GA.ret P
  replace hF := ite_f c14 hF
  refine GA.f c14 ?_
  by_cases c15 : a1 = a2
  · replace hF := ite_t c15 hF
    refine GA.t c15 ?_
    obtain ⟨f1, f2, f3, f4⟩ := fnW4 hF
    subst f1
    subst f2
    subst f3; subst f4; exact GA.ret P
  replace hF := ite_f c15 hF
  refine GA.f c15 ?_
  replace hF := ob_some hF
  obtain ⟨p16, h17, hF⟩ := hF
  refine GA.bind (P.getRo (k := 6) h0 (by decide) (by decide) (by decide) h17) ?_
  replace hF := ob_some hF
  obtain ⟨p18, h19, hF⟩ := hF
  refine GA.bind (P.getRo (k := 5) h0 (by decide) (by decide) (by decide) h19) ?_
  replace hF := ob_some hF
  obtain ⟨q20, h23, hF⟩ := hF
  replace hF := bmw_some hF
  obtain ⟨b21, b22, hF, h24, h25⟩ := hF
  obtain ⟨g26, ar30, cc31, e27, P28, X29⟩ := rX0_keep (r := q20.1) (w' := q20.2.1) (mc := q20.2.2.1) (ms := q20.2.2.2) P h23
  refine GA.of h24 h25 ?_
  refine GA.bind e27 ?_
  dsimp only
  refine GA.bmp X29 ?_
  clear P
  have P := P28
  have h32 := (X29 _ (by omega)).1.trans h0
  replace hF := ob_some hF
  obtain ⟨p33, h34, hF⟩ := hF
  refine GA.bind (P.getRo (k := 5) h32 (by decide) (by decide) (by decide) h34) ?_
  replace hF := ob_some hF
  obtain ⟨q35, h36, hF⟩ := hF
  obtain ⟨g37, e38, P⟩ := rX3_exchange (r := q35.1) (w' := q35.2) P h36
  refine GA.bind e38 ?_
  replace hF := ob_some hF
  obtain ⟨p39, h40, hF⟩ := hF
  refine GA.bind (P.getRo (k := 5) h32 (by decide) (by decide) (by decide) h40) ?_
  replace hF := ob_some hF
  obtain ⟨q41, h42, hF⟩ := hF
  obtain ⟨g43, e44, P⟩ := rX3_cellOf (r := q41.1) (w' := q41.2) P h42
  refine GA.bind e44 ?_
  obtain ⟨f1, f2, f3, f4⟩ := fnW4 hF
  subst f1
  subst f2
  subst f3; subst f4; exact GA.ret P
def FX8_gatheredSuspects_75 (k42 : HS → Nat → Nat → Nat → Option Nat → Int32 → Option (Option Nat × HS × Nat × Nat)) (w : HS) (sz : Nat) (v0 : Nat) (v1 : Nat) (v2 : Option Nat) (v3 : Int32) : Option (Option Nat × HS × Nat × Nat) :=
  k42 w sz v0 v1 v2 (v3 + (1 : Int32))
set_option maxHeartbeats 4000000 in
set_option maxRecDepth 100000 in
theorem rX8_gatheredSuspects_75 {ar : Nat → Nat → Nat} {c0 : Nat → Nat} {sz : Nat} {r : Option Nat} {w' : HS} {k42 : HS → Nat → Nat → Nat → Option Nat → Int32 → Option (Option Nat × HS × Nat × Nat)} {j42 : PH → Nat → Nat → Nat → Option Nat → Int32 → Option (Option Nat × PH × Nat × Nat)} (hk42 : ∀ (g : PH) (w : HS) (v0 : Nat) (v1 : Nat) (v2 : Option Nat) (v3 : Int32) (mc ms : Nat), c0 v0 = 8 → Rel ar c0 sz g w → k42 w sz v0 v1 v2 v3 = some (r, w', mc, ms) → GA ar c0 sz r w' mc ms (j42 g sz v0 v1 v2 v3)) {g : PH} {w : HS} {v0 : Nat} {v1 : Nat} {v2 : Option Nat} {v3 : Int32} {mc ms : Nat} (h0 : c0 v0 = 8) (P : Rel ar c0 sz g w) (hF : FX8_gatheredSuspects_75 k42 w sz v0 v1 v2 v3 = some (r, w', mc, ms)) : GA ar c0 sz r w' mc ms (fX8_gatheredSuspects_75 j42 g sz v0 v1 v2 v3) := by
  unfold FX8_gatheredSuspects_75 at hF
  unfold fX8_gatheredSuspects_75
  exact hk42 _ _ _ _ _ _ _ _ h0 P hF
def FX8_gatheredSuspects_42  : Nat → HS → Nat → Nat → Nat → Option Nat → Int32 → Option (Option Nat × HS × Nat × Nat)
  | 0, _, _, _, _, _, _ => none
  | n + 1, w, sz, v0, v1, v2, v3 =>
  if (hi w v0 2) ≤ v3 then (some ((some v1), w, 0, 0)) else
  ((FX8_kindAt w v0 v3).bind fun q2 =>
  (q2.1.elim (FX8_gatheredSuspects_75 (FX8_gatheredSuspects_42 n) q2.2 sz v0 v1 v2 v3) (fun p6 =>
  v2.elim (FX8_gatheredSuspects_75 (FX8_gatheredSuspects_42 n) q2.2 sz v0 v1 none v3) (fun p8 =>
  (FX8_gatherOf q2.2 v0 v1 p6 v3 p8).bind fun q10 =>
  (FX8_gatheredSuspects_75 (FX8_gatheredSuspects_42 n) q10.2 sz v0 v1 (some p8) v3)))))
set_option maxHeartbeats 4000000 in
set_option maxRecDepth 100000 in
theorem rX8_gatheredSuspects_42 {ar : Nat → Nat → Nat} {c0 : Nat → Nat} {sz : Nat} {r : Option Nat} {w' : HS}   : ∀ (n : Nat) (g : PH) (w : HS) (v0 : Nat) (v1 : Nat) (v2 : Option Nat) (v3 : Int32) (mc ms : Nat), c0 v0 = 8 → Rel ar c0 sz g w → FX8_gatheredSuspects_42  n w sz v0 v1 v2 v3 = some (r, w', mc, ms) → GA ar c0 sz r w' mc ms (fX8_gatheredSuspects_42  n g sz v0 v1 v2 v3) := by
  intro n
  induction n with
  | zero =>
    intro g w v0 v1 v2 v3 mc ms h0 P hF
    rw [FX8_gatheredSuspects_42] at hF
    cases hF
  | succ n ih =>
    intro g w v0 v1 v2 v3 mc ms h0 P hF
    rw [FX8_gatheredSuspects_42] at hF
    rw [fX8_gatheredSuspects_42]
    refine GA.bind (P.rI (k := 2) h0 (by decide) (by decide) (by decide)) ?_
    by_cases c1 : (hi w v0 2) ≤ v3
    · replace hF := ite_t c1 hF
      refine GA.t c1 ?_
      obtain ⟨f1, f2, f3, f4⟩ := fnW4 hF
      subst f1
      subst f2
      subst f3; subst f4; exact GA.ret P
    replace hF := ite_f c1 hF
    refine GA.f c1 ?_
    replace hF := ob_some hF
    obtain ⟨q2, h3, hF⟩ := hF
    obtain ⟨g4, e5, P⟩ := rX8_kindAt (r := q2.1) (w' := q2.2) P h3
    refine GA.bind e5 ?_
    dsimp only
    by_cases h7 : q2.1 = none
    · replace hF := el_n h7 hF
      refine GA.en h7 ?_
      exact rX8_gatheredSuspects_75 ih h0 P hF
    obtain ⟨p6, h7⟩ := Option.ne_none_iff_exists'.mp h7
    replace hF := el_s h7 hF
    refine GA.es h7 ?_
    by_cases h9 : v2 = none
    · replace hF := el_n h9 hF
      refine GA.en h9 ?_
      exact rX8_gatheredSuspects_75 ih h0 P hF
    obtain ⟨p8, h9⟩ := Option.ne_none_iff_exists'.mp h9
    replace hF := el_s h9 hF
    refine GA.es h9 ?_
    replace hF := ob_some hF
    obtain ⟨q10, h11, hF⟩ := hF
    obtain ⟨g12, e13, P⟩ := rX8_gatherOf (r := q10.1) (w' := q10.2) P h11
    refine GA.bind e13 ?_
    exact rX8_gatheredSuspects_75 ih h0 P hF
def FX8_gatheredSuspects_18  (w : HS) (sz : Nat) (v0 : Nat) : Option (Option Nat × HS × Nat × Nat) :=
  (hp w v0 9).bind fun p1 =>
  (okb (hc w p1 == 5) (bnd (setI w p1 0 (0 : Int32)) fun w4 =>
  ((hp w4 v0 5).bind fun p8 =>
  (okb (hc w4 p8 == 3) ((FX8_marchAt w4 v0 (hi w4 p8 6)).bind fun q11 =>
  (FX8_gatheredSuspects_42 FUEL q11.2 sz v0 p1 q11.1 (0 : Int32)))))))
set_option maxHeartbeats 4000000 in
set_option maxRecDepth 100000 in
theorem rX8_gatheredSuspects_18 {ar : Nat → Nat → Nat} {c0 : Nat → Nat} {sz : Nat} {r : Option Nat} {w' : HS}   {g : PH} {w : HS} {v0 : Nat} {mc ms : Nat} (h0 : c0 v0 = 8) (P : Rel ar c0 sz g w) (hF : FX8_gatheredSuspects_18  w sz v0 = some (r, w', mc, ms)) : GA ar c0 sz r w' mc ms (fX8_gatheredSuspects_18  g sz v0) := by
  unfold FX8_gatheredSuspects_18 at hF
  unfold fX8_gatheredSuspects_18
  refine GA.bind (P.rQ (k := 9) h0 (by decide) (by decide) (by decide)) ?_
  replace hF := ob_some hF
  obtain ⟨p1, h2, hF⟩ := hF
  refine GA.bind h2 ?_
  replace hF := okb_some hF
  obtain ⟨h3, hF⟩ := hF
  replace h3 := P.cls h3
  replace hF := bnd_e hF
  obtain ⟨w4, e5, hF⟩ := hF
  obtain ⟨g6, e7, P⟩ := P.putI (k := 0) h3 (by decide) (by decide) (by decide) e5
  refine GA.bind e7 ?_
  replace hF := ob_some hF
  obtain ⟨p8, h9, hF⟩ := hF
  refine GA.bind (P.getRo (k := 5) h0 (by decide) (by decide) (by decide) h9) ?_
  replace hF := okb_some hF
  obtain ⟨h10, hF⟩ := hF
  replace h10 := P.cls h10
  refine GA.bind (P.rI (k := 6) h10 (by decide) (by decide) (by decide)) ?_
  replace hF := ob_some hF
  obtain ⟨q11, h12, hF⟩ := hF
  obtain ⟨g13, e14, P⟩ := rX8_marchAt (r := q11.1) (w' := q11.2) P h12
  refine GA.bind e14 ?_
  dsimp only
  exact rX8_gatheredSuspects_42  _ _ _ _ _ _ _ _ _ h0 P hF
def FX8_gatheredSuspects (sz : Nat) (w : HS) (a0 : Nat) : Option (Option Nat × HS × Nat × Nat) :=
  okb (hc w a0 == 8) ((hp w a0 9).elim (bmw 1 6 (bmw 4 1920 (bnd (nwX5 w sz) fun w15 =>
  (bnd (setP w15 a0 9 (some sz)) fun w21 =>
  (FX8_gatheredSuspects_18 w21 ((sz + 1) + 4) a0))))) (fun p1 =>
  FX8_gatheredSuspects_18 w sz a0))
set_option maxHeartbeats 4000000 in
set_option maxRecDepth 100000 in
theorem rX8_gatheredSuspects {ar : Nat → Nat → Nat} {c0 : Nat → Nat} {sz : Nat} {g : PH} {w w' : HS} {a0 : Nat} {r : Option Nat} {mc ms : Nat} (P : Rel ar c0 sz g w) (hF : FX8_gatheredSuspects sz w a0 = some (r, w', mc, ms)) : GA ar c0 sz r w' mc ms (fX8_gatheredSuspects sz g a0) := by
  unfold FX8_gatheredSuspects at hF
  unfold fX8_gatheredSuspects
  replace hF := okb_some hF
  obtain ⟨h0, hF⟩ := hF
  replace h0 := P.cls h0
  refine GA.ok (P.rO h0 (by decide)) ?_
  refine GA.bind (P.rQ (k := 9) h0 (by decide) (by decide) (by decide)) ?_
  by_cases h2 : (hp w a0 9) = none
  · replace hF := el_n h2 hF
    refine GA.en h2 ?_
    replace hF := bmw_some hF
    obtain ⟨b3, b4, hF, h7, h8⟩ := hF
    replace hF := bmw_some hF
    obtain ⟨b5, b6, hF, h9, h10⟩ := hF
    replace hF := bnd_e hF
    obtain ⟨w15, e16, hF⟩ := hF
    obtain ⟨g11, ar17, cc18, e12, P13, X14, h19⟩ := cuX5 P
    rw [← e16] at P13
    refine GA.of h7 h8 ?_
    refine GA.bmp (Ext.rf _ _) ?_
    refine GA.of h9 h10 ?_
    refine GA.bind e12 ?_
    refine GA.bmp X14 ?_
    clear P
    have P := P13
    have h20 := (X14 _ (by omega)).1.trans h0
    replace hF := bnd_e hF
    obtain ⟨w21, e22, hF⟩ := hF
    obtain ⟨g23, e24, P⟩ := P.putP (k := 9) h20 (by decide) (by decide) (by decide) e22
    refine GA.bind e24 ?_
    exact rX8_gatheredSuspects_18  h20 P hF
  obtain ⟨p1, h2⟩ := Option.ne_none_iff_exists'.mp h2
  replace hF := el_s h2 hF
  refine GA.es h2 ?_
  exact rX8_gatheredSuspects_18  h0 P hF
def FX8_fits (sz : Nat) (w : HS) (a0 : Nat) (a1 : Int32) : Option (Int32 × HS × Nat × Nat) :=
  okb (hc w a0 == 8) (if a1 < 0 then (some ((-1 : Int32), w, 0, 0)) else
  (if (3 : Int32) < a1 then (some ((-1 : Int32), w, 0, 0)) else
  ((hp w a0 5).bind fun p3 =>
  (okb (hc w p3 == 3) ((FX8_marchAt w a0 (hi w p3 6)).bind fun q6 =>
  (q6.1.elim (some ((-1 : Int32), q6.2, 0, 0)) (fun p10 =>
  (FX8_gatheredSuspects sz q6.2 a0).bind fun q12 =>
  (bmw q12.2.2.1 q12.2.2.2 (if a1 = 0 then (q12.1.bind fun p27 =>
  (okb (hc q12.2.1 p27 == 5) (some ((hi q12.2.1 p27 0), q12.2.1, 0, 0)))) else
  (q12.1.bind fun p30 =>
  (okb (hc q12.2.1 p30 == 5) (if (hi q12.2.1 p30 0) = 0 then (some ((-2 : Int32), q12.2.1, 0, 0)) else
  (if a1 = (1 : Int32) then ((FX5_kindOf q12.2.1 p30 (0 : Int32)).bind fun q35 =>
  (some (q35.1, q35.2, 0, 0))) else
  ((FX5_kindOf q12.2.1 p30 (0 : Int32)).bind fun q39 =>
  ((FX8_kindAt q39.2 a0 q39.1).bind fun q43 =>
  (q43.1.elim (some ((-2 : Int32), q43.2, 0, 0)) (fun p47 =>
  (FX5_placementOf q43.2 p30 (0 : Int32)).bind fun q49 =>
  (if a1 = (2 : Int32) then ((hp q49.2 a0 5).bind fun p54 =>
  (okb (hc q49.2 p54 == 3) ((FX1_aggressorOf q49.2 p47 q49.1 (hi q49.2 p54 0)).bind fun q57 =>
  (some (q57.1, q57.2, 0, 0))))) else
  ((hp q49.2 a0 5).bind fun p61 =>
  (okb (hc q49.2 p61 == 3) ((FX1_victimOf q49.2 p47 q49.1 (hi q49.2 p61 0)).bind fun q64 =>
  (some (q64.1, q64.2, 0, 0)))))))))))))))))))))))
set_option maxHeartbeats 4000000 in
set_option maxRecDepth 100000 in
theorem rX8_fits {ar : Nat → Nat → Nat} {c0 : Nat → Nat} {sz : Nat} {g : PH} {w w' : HS} {a0 : Nat} {a1 : Int32} {r : Int32} {mc ms : Nat} (P : Rel ar c0 sz g w) (hF : FX8_fits sz w a0 a1 = some (r, w', mc, ms)) : GA ar c0 sz r w' mc ms (fX8_fits sz g a0 a1) := by
  unfold FX8_fits at hF
  unfold fX8_fits
  replace hF := okb_some hF
  obtain ⟨h0, hF⟩ := hF
  replace h0 := P.cls h0
  refine GA.ok (P.rO h0 (by decide)) ?_
  by_cases c1 : a1 < 0
  · replace hF := ite_t c1 hF
    refine GA.t c1 ?_
    obtain ⟨f1, f2, f3, f4⟩ := fnW4 hF
    subst f1
    subst f2
    subst f3; subst f4; exact GA.ret P
  replace hF := ite_f c1 hF
  refine GA.f c1 ?_
  by_cases c2 : (3 : Int32) < a1
  · replace hF := ite_t c2 hF
    refine GA.t c2 ?_
    obtain ⟨f1, f2, f3, f4⟩ := fnW4 hF
    subst f1
    subst f2
    subst f3; subst f4; exact GA.ret P
  replace hF := ite_f c2 hF
  refine GA.f c2 ?_
  replace hF := ob_some hF
  obtain ⟨p3, h4, hF⟩ := hF
  refine GA.bind (P.getRo (k := 5) h0 (by decide) (by decide) (by decide) h4) ?_
  replace hF := okb_some hF
  obtain ⟨h5, hF⟩ := hF
  replace h5 := P.cls h5
  refine GA.bind (P.rI (k := 6) h5 (by decide) (by decide) (by decide)) ?_
  replace hF := ob_some hF
  obtain ⟨q6, h7, hF⟩ := hF
  obtain ⟨g8, e9, P⟩ := rX8_marchAt (r := q6.1) (w' := q6.2) P h7
  refine GA.bind e9 ?_
  dsimp only
  by_cases h11 : q6.1 = none
  · replace hF := el_n h11 hF
    refine GA.en h11 ?_
    obtain ⟨f1, f2, f3, f4⟩ := fnW4 hF
    subst f1
    subst f2
    subst f3; subst f4; exact GA.ret P
  obtain ⟨p10, h11⟩ := Option.ne_none_iff_exists'.mp h11
  replace hF := el_s h11 hF
  refine GA.es h11 ?_
  replace hF := ob_some hF
  obtain ⟨q12, h15, hF⟩ := hF
  replace hF := bmw_some hF
  obtain ⟨b13, b14, hF, h16, h17⟩ := hF
  obtain ⟨g18, ar22, cc23, e19, P20, X21⟩ := rX8_gatheredSuspects (r := q12.1) (w' := q12.2.1) (mc := q12.2.2.1) (ms := q12.2.2.2) P h15
  refine GA.of h16 h17 ?_
  refine GA.bind e19 ?_
  dsimp only
  refine GA.bmp X21 ?_
  clear P
  have P := P20
  have h24 := (X21 _ (by omega)).1.trans h0
  have h25 := (X21 _ (by omega)).1.trans h5
  by_cases c26 : a1 = 0
  · replace hF := ite_t c26 hF
    refine GA.t c26 ?_
    replace hF := ob_some hF
    obtain ⟨p27, h28, hF⟩ := hF
    refine GA.bind h28 ?_
    replace hF := okb_some hF
    obtain ⟨h29, hF⟩ := hF
    replace h29 := P.cls h29
    refine GA.bind (P.rI (k := 0) h29 (by decide) (by decide) (by decide)) ?_
    obtain ⟨f1, f2, f3, f4⟩ := fnW4 hF
    subst f1
    subst f2
    subst f3; subst f4; exact GA.ret P
  replace hF := ite_f c26 hF
  refine GA.f c26 ?_
  replace hF := ob_some hF
  obtain ⟨p30, h31, hF⟩ := hF
  refine GA.bind h31 ?_
  replace hF := okb_some hF
  obtain ⟨h32, hF⟩ := hF
  replace h32 := P.cls h32
  refine GA.bind (P.rI (k := 0) h32 (by decide) (by decide) (by decide)) ?_
  by_cases c33 : (hi q12.2.1 p30 0) = 0
  · replace hF := ite_t c33 hF
    refine GA.t c33 ?_
    obtain ⟨f1, f2, f3, f4⟩ := fnW4 hF
    subst f1
    subst f2
    subst f3; subst f4; exact GA.ret P
  replace hF := ite_f c33 hF
  refine GA.f c33 ?_
  by_cases c34 : a1 = (1 : Int32)
  · replace hF := ite_t c34 hF
    refine GA.t c34 ?_
    replace hF := ob_some hF
    obtain ⟨q35, h36, hF⟩ := hF
    obtain ⟨g37, e38, P⟩ := rX5_kindOf (r := q35.1) (w' := q35.2) P h36
    refine GA.bind e38 ?_
    obtain ⟨f1, f2, f3, f4⟩ := fnW4 hF
    subst f1
    subst f2
    subst f3; subst f4; exact GA.ret P
  replace hF := ite_f c34 hF
  refine GA.f c34 ?_
  replace hF := ob_some hF
  obtain ⟨q39, h40, hF⟩ := hF
  obtain ⟨g41, e42, P⟩ := rX5_kindOf (r := q39.1) (w' := q39.2) P h40
  refine GA.bind e42 ?_
  replace hF := ob_some hF
  obtain ⟨q43, h44, hF⟩ := hF
  obtain ⟨g45, e46, P⟩ := rX8_kindAt (r := q43.1) (w' := q43.2) P h44
  refine GA.bind e46 ?_
  dsimp only
  by_cases h48 : q43.1 = none
  · replace hF := el_n h48 hF
    refine GA.en h48 ?_
    obtain ⟨f1, f2, f3, f4⟩ := fnW4 hF
    subst f1
    subst f2
    subst f3; subst f4; exact GA.ret P
  obtain ⟨p47, h48⟩ := Option.ne_none_iff_exists'.mp h48
  replace hF := el_s h48 hF
  refine GA.es h48 ?_
  replace hF := ob_some hF
  obtain ⟨q49, h50, hF⟩ := hF
  obtain ⟨g51, e52, P⟩ := rX5_placementOf (r := q49.1) (w' := q49.2) P h50
  refine GA.bind e52 ?_
  by_cases c53 : a1 = (2 : Int32)
  · replace hF := ite_t c53 hF
    refine GA.t c53 ?_
    replace hF := ob_some hF
    obtain ⟨p54, h55, hF⟩ := hF
    refine GA.bind (P.getRo (k := 5) h24 (by decide) (by decide) (by decide) h55) ?_
    replace hF := okb_some hF
    obtain ⟨h56, hF⟩ := hF
    replace h56 := P.cls h56
    refine GA.bind (P.rI (k := 0) h56 (by decide) (by decide) (by decide)) ?_
    replace hF := ob_some hF
    obtain ⟨q57, h58, hF⟩ := hF
    obtain ⟨g59, e60, P⟩ := rX1_aggressorOf (r := q57.1) (w' := q57.2) P h58
    refine GA.bind e60 ?_
    obtain ⟨f1, f2, f3, f4⟩ := fnW4 hF
    subst f1
    subst f2
    subst f3; subst f4; exact GA.ret P
  replace hF := ite_f c53 hF
  refine GA.f c53 ?_
  replace hF := ob_some hF
  obtain ⟨p61, h62, hF⟩ := hF
  refine GA.bind (P.getRo (k := 5) h24 (by decide) (by decide) (by decide) h62) ?_
  replace hF := okb_some hF
  obtain ⟨h63, hF⟩ := hF
  replace h63 := P.cls h63
  refine GA.bind (P.rI (k := 0) h63 (by decide) (by decide) (by decide)) ?_
  replace hF := ob_some hF
  obtain ⟨q64, h65, hF⟩ := hF
  obtain ⟨g66, e67, P⟩ := rX1_victimOf (r := q64.1) (w' := q64.2) P h65
  refine GA.bind e67 ?_
  obtain ⟨f1, f2, f3, f4⟩ := fnW4 hF
  subst f1
  subst f2
  subst f3; subst f4; exact GA.ret P
def FX8_parts (sz : Nat) (w : HS) (a0 : Nat) (a1 : Int32) : Option (Int32 × HS × Nat × Nat) :=
  okb (hc w a0 == 8) ((FX8_marchAt w a0 a1).bind fun q1 =>
  (q1.1.elim (some ((-1 : Int32), q1.2, 0, 0)) (fun p5 =>
  (hp q1.2 a0 5).bind fun p7 =>
  (okb (hc q1.2 p7 == 3) ((FX8_marchAt q1.2 a0 (hi q1.2 p7 6)).bind fun q10 =>
  (q10.1.elim (some ((-1 : Int32), q10.2, 0, 0)) (fun p14 =>
  (FX8_gatheredSuspects sz q10.2 a0).bind fun q16 =>
  (bmw q16.2.2.1 q16.2.2.2 (q16.1.bind fun p30 =>
  ((FX8_greatestPart q16.2.1 a0 p30 a1).bind fun q32 =>
  (some (q32.1, q32.2, 0, 0))))))))))))
set_option maxHeartbeats 4000000 in
set_option maxRecDepth 100000 in
theorem rX8_parts {ar : Nat → Nat → Nat} {c0 : Nat → Nat} {sz : Nat} {g : PH} {w w' : HS} {a0 : Nat} {a1 : Int32} {r : Int32} {mc ms : Nat} (P : Rel ar c0 sz g w) (hF : FX8_parts sz w a0 a1 = some (r, w', mc, ms)) : GA ar c0 sz r w' mc ms (fX8_parts sz g a0 a1) := by
  unfold FX8_parts at hF
  unfold fX8_parts
  replace hF := okb_some hF
  obtain ⟨h0, hF⟩ := hF
  replace h0 := P.cls h0
  refine GA.ok (P.rO h0 (by decide)) ?_
  replace hF := ob_some hF
  obtain ⟨q1, h2, hF⟩ := hF
  obtain ⟨g3, e4, P⟩ := rX8_marchAt (r := q1.1) (w' := q1.2) P h2
  refine GA.bind e4 ?_
  dsimp only
  by_cases h6 : q1.1 = none
  · replace hF := el_n h6 hF
    refine GA.en h6 ?_
    obtain ⟨f1, f2, f3, f4⟩ := fnW4 hF
    subst f1
    subst f2
    subst f3; subst f4; exact GA.ret P
  obtain ⟨p5, h6⟩ := Option.ne_none_iff_exists'.mp h6
  replace hF := el_s h6 hF
  refine GA.es h6 ?_
  replace hF := ob_some hF
  obtain ⟨p7, h8, hF⟩ := hF
  refine GA.bind (P.getRo (k := 5) h0 (by decide) (by decide) (by decide) h8) ?_
  replace hF := okb_some hF
  obtain ⟨h9, hF⟩ := hF
  replace h9 := P.cls h9
  refine GA.bind (P.rI (k := 6) h9 (by decide) (by decide) (by decide)) ?_
  replace hF := ob_some hF
  obtain ⟨q10, h11, hF⟩ := hF
  obtain ⟨g12, e13, P⟩ := rX8_marchAt (r := q10.1) (w' := q10.2) P h11
  refine GA.bind e13 ?_
  dsimp only
  by_cases h15 : q10.1 = none
  · replace hF := el_n h15 hF
    refine GA.en h15 ?_
    obtain ⟨f1, f2, f3, f4⟩ := fnW4 hF
    subst f1
    subst f2
    subst f3; subst f4; exact GA.ret P
  obtain ⟨p14, h15⟩ := Option.ne_none_iff_exists'.mp h15
  replace hF := el_s h15 hF
  refine GA.es h15 ?_
  replace hF := ob_some hF
  obtain ⟨q16, h19, hF⟩ := hF
  replace hF := bmw_some hF
  obtain ⟨b17, b18, hF, h20, h21⟩ := hF
  obtain ⟨g22, ar26, cc27, e23, P24, X25⟩ := rX8_gatheredSuspects (r := q16.1) (w' := q16.2.1) (mc := q16.2.2.1) (ms := q16.2.2.2) P h19
  refine GA.of h20 h21 ?_
  refine GA.bind e23 ?_
  dsimp only
  refine GA.bmp X25 ?_
  clear P
  have P := P24
  have h28 := (X25 _ (by omega)).1.trans h0
  have h29 := (X25 _ (by omega)).1.trans h9
  replace hF := ob_some hF
  obtain ⟨p30, h31, hF⟩ := hF
  refine GA.bind h31 ?_
  replace hF := ob_some hF
  obtain ⟨q32, h33, hF⟩ := hF
  obtain ⟨g34, e35, P⟩ := rX8_greatestPart (r := q32.1) (w' := q32.2) P h33
  refine GA.bind e35 ?_
  obtain ⟨f1, f2, f3, f4⟩ := fnW4 hF
  subst f1
  subst f2
  subst f3; subst f4; exact GA.ret P
def FX8_ask_63 (k33 : HS → Nat → Nat → Nat → Int32 → Int32 → Int32 → Option (Int32 × HS × Nat × Nat)) (w : HS) (sz : Nat) (v0 : Nat) (v1 : Nat) (v2 : Int32) (v3 : Int32) (v4 : Int32) : Option (Int32 × HS × Nat × Nat) :=
  k33 w sz v0 v1 v2 v3 (v4 + (1 : Int32))
set_option maxHeartbeats 4000000 in
set_option maxRecDepth 100000 in
theorem rX8_ask_63 {ar : Nat → Nat → Nat} {c0 : Nat → Nat} {sz : Nat} {r : Int32} {w' : HS} {k33 : HS → Nat → Nat → Nat → Int32 → Int32 → Int32 → Option (Int32 × HS × Nat × Nat)} {j33 : PH → Nat → Nat → Nat → Int32 → Int32 → Int32 → Option (Int32 × PH × Nat × Nat)} (hk33 : ∀ (g : PH) (w : HS) (v0 : Nat) (v1 : Nat) (v2 : Int32) (v3 : Int32) (v4 : Int32) (mc ms : Nat), c0 v0 = 8 → Rel ar c0 sz g w → k33 w sz v0 v1 v2 v3 v4 = some (r, w', mc, ms) → GA ar c0 sz r w' mc ms (j33 g sz v0 v1 v2 v3 v4)) {g : PH} {w : HS} {v0 : Nat} {v1 : Nat} {v2 : Int32} {v3 : Int32} {v4 : Int32} {mc ms : Nat} (h0 : c0 v0 = 8) (P : Rel ar c0 sz g w) (hF : FX8_ask_63 k33 w sz v0 v1 v2 v3 v4 = some (r, w', mc, ms)) : GA ar c0 sz r w' mc ms (fX8_ask_63 j33 g sz v0 v1 v2 v3 v4) := by
  unfold FX8_ask_63 at hF
  unfold fX8_ask_63
  exact hk33 _ _ _ _ _ _ _ _ _ h0 P hF
def FX8_ask_33  : Nat → HS → Nat → Nat → Nat → Int32 → Int32 → Int32 → Option (Int32 × HS × Nat × Nat)
  | 0, _, _, _, _, _, _, _ => none
  | n + 1, w, sz, v0, v1, v2, v3, v4 =>
  if (hi w v0 4) ≤ v4 then (some (v2, w, 0, 0)) else
  ((FX8_greatestPart w v0 v1 v4).bind fun q2 =>
  (if v3 ≤ q2.1 then (FX8_ask_63 (FX8_ask_33 n) q2.2 sz v0 v1 v2 v3 v4) else
  (FX8_ask_63 (FX8_ask_33 n) q2.2 sz v0 v1 v4 q2.1 v4)))
set_option maxHeartbeats 4000000 in
set_option maxRecDepth 100000 in
theorem rX8_ask_33 {ar : Nat → Nat → Nat} {c0 : Nat → Nat} {sz : Nat} {r : Int32} {w' : HS}   : ∀ (n : Nat) (g : PH) (w : HS) (v0 : Nat) (v1 : Nat) (v2 : Int32) (v3 : Int32) (v4 : Int32) (mc ms : Nat), c0 v0 = 8 → Rel ar c0 sz g w → FX8_ask_33  n w sz v0 v1 v2 v3 v4 = some (r, w', mc, ms) → GA ar c0 sz r w' mc ms (fX8_ask_33  n g sz v0 v1 v2 v3 v4) := by
  intro n
  induction n with
  | zero =>
    intro g w v0 v1 v2 v3 v4 mc ms h0 P hF
    rw [FX8_ask_33] at hF
    cases hF
  | succ n ih =>
    intro g w v0 v1 v2 v3 v4 mc ms h0 P hF
    rw [FX8_ask_33] at hF
    rw [fX8_ask_33]
    refine GA.bind (P.rI (k := 4) h0 (by decide) (by decide) (by decide)) ?_
    by_cases c1 : (hi w v0 4) ≤ v4
    · replace hF := ite_t c1 hF
      refine GA.t c1 ?_
      obtain ⟨f1, f2, f3, f4⟩ := fnW4 hF
      subst f1
      subst f2
      subst f3; subst f4; exact GA.ret P
    replace hF := ite_f c1 hF
    refine GA.f c1 ?_
    replace hF := ob_some hF
    obtain ⟨q2, h3, hF⟩ := hF
    obtain ⟨g4, e5, P⟩ := rX8_greatestPart (r := q2.1) (w' := q2.2) P h3
    refine GA.bind e5 ?_
    by_cases c6 : v3 ≤ q2.1
    · replace hF := ite_t c6 hF
      refine GA.t c6 ?_
      exact rX8_ask_63 ih h0 P hF
    replace hF := ite_f c6 hF
    refine GA.f c6 ?_
    exact rX8_ask_63 ih h0 P hF
def FX8_ask (sz : Nat) (w : HS) (a0 : Nat) : Option (Int32 × HS × Nat × Nat) :=
  okb (hc w a0 == 8) ((hp w a0 5).bind fun p1 =>
  (okb (hc w p1 == 3) ((FX8_marchAt w a0 (hi w p1 6)).bind fun q4 =>
  (q4.1.elim (some ((-1 : Int32), q4.2, 0, 0)) (fun p8 =>
  (FX8_gatheredSuspects sz q4.2 a0).bind fun q10 =>
  (bmw q10.2.2.1 q10.2.2.2 (q10.1.bind fun p24 =>
  ((FX8_greatestPart q10.2.1 a0 p24 (0 : Int32)).bind fun q26 =>
  (FX8_ask_33 FUEL q26.2 (sz + q10.2.2.1) a0 p24 (0 : Int32) q26.1 (1 : Int32))))))))))
set_option maxHeartbeats 4000000 in
set_option maxRecDepth 100000 in
theorem rX8_ask {ar : Nat → Nat → Nat} {c0 : Nat → Nat} {sz : Nat} {g : PH} {w w' : HS} {a0 : Nat} {r : Int32} {mc ms : Nat} (P : Rel ar c0 sz g w) (hF : FX8_ask sz w a0 = some (r, w', mc, ms)) : GA ar c0 sz r w' mc ms (fX8_ask sz g a0) := by
  unfold FX8_ask at hF
  unfold fX8_ask
  replace hF := okb_some hF
  obtain ⟨h0, hF⟩ := hF
  replace h0 := P.cls h0
  refine GA.ok (P.rO h0 (by decide)) ?_
  replace hF := ob_some hF
  obtain ⟨p1, h2, hF⟩ := hF
  refine GA.bind (P.getRo (k := 5) h0 (by decide) (by decide) (by decide) h2) ?_
  replace hF := okb_some hF
  obtain ⟨h3, hF⟩ := hF
  replace h3 := P.cls h3
  refine GA.bind (P.rI (k := 6) h3 (by decide) (by decide) (by decide)) ?_
  replace hF := ob_some hF
  obtain ⟨q4, h5, hF⟩ := hF
  obtain ⟨g6, e7, P⟩ := rX8_marchAt (r := q4.1) (w' := q4.2) P h5
  refine GA.bind e7 ?_
  dsimp only
  by_cases h9 : q4.1 = none
  · replace hF := el_n h9 hF
    refine GA.en h9 ?_
    obtain ⟨f1, f2, f3, f4⟩ := fnW4 hF
    subst f1
    subst f2
    subst f3; subst f4; exact GA.ret P
  obtain ⟨p8, h9⟩ := Option.ne_none_iff_exists'.mp h9
  replace hF := el_s h9 hF
  refine GA.es h9 ?_
  replace hF := ob_some hF
  obtain ⟨q10, h13, hF⟩ := hF
  replace hF := bmw_some hF
  obtain ⟨b11, b12, hF, h14, h15⟩ := hF
  obtain ⟨g16, ar20, cc21, e17, P18, X19⟩ := rX8_gatheredSuspects (r := q10.1) (w' := q10.2.1) (mc := q10.2.2.1) (ms := q10.2.2.2) P h13
  refine GA.of h14 h15 ?_
  refine GA.bind e17 ?_
  dsimp only
  refine GA.bmp X19 ?_
  clear P
  have P := P18
  have h22 := (X19 _ (by omega)).1.trans h0
  have h23 := (X19 _ (by omega)).1.trans h3
  replace hF := ob_some hF
  obtain ⟨p24, h25, hF⟩ := hF
  refine GA.bind h25 ?_
  replace hF := ob_some hF
  obtain ⟨q26, h27, hF⟩ := hF
  obtain ⟨g28, e29, P⟩ := rX8_greatestPart (r := q26.1) (w' := q26.2) P h27
  refine GA.bind e29 ?_
  exact rX8_ask_33  _ _ _ _ _ _ _ _ _ _ h22 P hF
