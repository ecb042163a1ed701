def FJ0_coder_7d493 (w : HS) (a0 : Nat) : Option (Int32 × HS) :=
  okb (decide (a0 < 15)) (okb (decide (a0 < 15)) (some ((0 : Int32), w)))
set_option maxHeartbeats 4000000 in
set_option maxRecDepth 100000 in
theorem rJ0_coder_7d493 {ar : Nat → Nat → Nat} {c0 : Nat → Nat} {sz : Nat} {g : PH} {w w' : HS} {a0 : Nat} {r : Int32} (P : Rel ar c0 sz g w) (hF : FJ0_coder_7d493 w a0 = some (r, w')) : GR ar c0 sz r w' (fJ0_coder_7d493 g a0) := by
  unfold FJ0_coder_7d493 at hF
  unfold fJ0_coder_7d493
  replace hF := okb_some hF
  obtain ⟨h0, hF⟩ := hF
  refine GR.ok h0 ?_
  replace hF := okb_some hF
  obtain ⟨h1, hF⟩ := hF
  refine GR.ok h1 ?_
  obtain ⟨f1, f2⟩ := finW hF
  subst f1
  subst f2
  exact GR.ret P
def FJ0_isLatin1_aae02 (w : HS) (a0 : Nat) : Option (Int32 × HS) :=
  okb (decide (a0 < 15)) (okb (decide (a0 < 15)) (some ((1 : Int32), w)))
set_option maxHeartbeats 4000000 in
set_option maxRecDepth 100000 in
theorem rJ0_isLatin1_aae02 {ar : Nat → Nat → Nat} {c0 : Nat → Nat} {sz : Nat} {g : PH} {w w' : HS} {a0 : Nat} {r : Int32} (P : Rel ar c0 sz g w) (hF : FJ0_isLatin1_aae02 w a0 = some (r, w')) : GR ar c0 sz r w' (fJ0_isLatin1_aae02 g a0) := by
  unfold FJ0_isLatin1_aae02 at hF
  unfold fJ0_isLatin1_aae02
  replace hF := okb_some hF
  obtain ⟨h0, hF⟩ := hF
  refine GR.ok h0 ?_
  replace hF := okb_some hF
  obtain ⟨h1, hF⟩ := hF
  refine GR.ok h1 ?_
  obtain ⟨f1, f2⟩ := finW hF
  subst f1
  subst f2
  exact GR.ret P
def FJ0_length_8abf5 (w : HS) (a0 : Nat) : Option (Int32 × HS) :=
  okb (decide (a0 < 15)) (okb (decide (a0 < 15)) (okb (decide (a0 < 15)) ((FJ0_coder_7d493 w a0).bind fun q3 =>
  (some (((Int32.ofNat (strB a0).length) >>> (q3.1 &&& 31)), q3.2)))))
set_option maxHeartbeats 4000000 in
set_option maxRecDepth 100000 in
theorem rJ0_length_8abf5 {ar : Nat → Nat → Nat} {c0 : Nat → Nat} {sz : Nat} {g : PH} {w w' : HS} {a0 : Nat} {r : Int32} (P : Rel ar c0 sz g w) (hF : FJ0_length_8abf5 w a0 = some (r, w')) : GR ar c0 sz r w' (fJ0_length_8abf5 g a0) := by
  unfold FJ0_length_8abf5 at hF
  unfold fJ0_length_8abf5
  replace hF := okb_some hF
  obtain ⟨h0, hF⟩ := hF
  refine GR.ok h0 ?_
  replace hF := okb_some hF
  obtain ⟨h1, hF⟩ := hF
  refine GR.ok h1 ?_
  replace hF := okb_some hF
  obtain ⟨h2, hF⟩ := hF
  refine GR.ok h2 ?_
  replace hF := ob_some hF
  obtain ⟨q3, h4, hF⟩ := hF
  obtain ⟨g5, e6, P⟩ := rJ0_coder_7d493 (r := q3.1) (w' := q3.2) P h4
  refine GR.bind e6 ?_
  obtain ⟨f1, f2⟩ := finW hF
  subst f1
  subst f2
  exact GR.ret P
def FJ1_canEncode_9a6ad (w : HS) (a0 : Int32) : Option (Int32 × HS) :=
  if a0 < 0 then (some ((0 : Int32), w)) else
  (if (255 : Int32) < a0 then (some ((0 : Int32), w)) else
  (some ((1 : Int32), w)))
set_option maxHeartbeats 4000000 in
set_option maxRecDepth 100000 in
theorem rJ1_canEncode_9a6ad {ar : Nat → Nat → Nat} {c0 : Nat → Nat} {sz : Nat} {g : PH} {w w' : HS} {a0 : Int32} {r : Int32} (P : Rel ar c0 sz g w) (hF : FJ1_canEncode_9a6ad w a0 = some (r, w')) : GR ar c0 sz r w' (fJ1_canEncode_9a6ad g a0) := by
  unfold FJ1_canEncode_9a6ad at hF
  unfold fJ1_canEncode_9a6ad
  by_cases c1 : a0 < 0
  · replace hF := ite_t c1 hF
    refine GR.t c1 ?_
    obtain ⟨f1, f2⟩ := finW hF
    subst f1
    subst f2
    exact GR.ret P
  replace hF := ite_f c1 hF
  refine GR.f c1 ?_
  by_cases c2 : (255 : Int32) < a0
  · replace hF := ite_t c2 hF
    refine GR.t c2 ?_
    obtain ⟨f1, f2⟩ := finW hF
    subst f1
    subst f2
    exact GR.ret P
  replace hF := ite_f c2 hF
  refine GR.f c2 ?_
  obtain ⟨f1, f2⟩ := finW hF
  subst f1
  subst f2
  exact GR.ret P
def FJ3_checkIndex_8e157 (w : HS) (a0 : Int32) (a1 : Int32) : Option (Int32 × HS) :=
  if a0 < 0 then (none) else
  (if a0 < a1 then (some (a0, w)) else
  (none))
set_option maxHeartbeats 4000000 in
set_option maxRecDepth 100000 in
theorem rJ3_checkIndex_8e157 {ar : Nat → Nat → Nat} {c0 : Nat → Nat} {sz : Nat} {g : PH} {w w' : HS} {a0 : Int32} {a1 : Int32} {r : Int32} (P : Rel ar c0 sz g w) (hF : FJ3_checkIndex_8e157 w a0 a1 = some (r, w')) : GR ar c0 sz r w' (fJ3_checkIndex_8e157 g a0 a1) := by
  unfold FJ3_checkIndex_8e157 at hF
  unfold fJ3_checkIndex_8e157
  by_cases c1 : a0 < 0
  · replace hF := ite_t c1 hF
    refine GR.t c1 ?_
    cases hF
  replace hF := ite_f c1 hF
  refine GR.f c1 ?_
  by_cases c2 : a0 < a1
  · replace hF := ite_t c2 hF
    refine GR.t c2 ?_
    obtain ⟨f1, f2⟩ := finW hF
    subst f1
    subst f2
    exact GR.ret P
  replace hF := ite_f c2 hF
  refine GR.f c2 ?_
  cases hF
def FJ0_checkIndex_df160 (w : HS) (a0 : Int32) (a1 : Int32) : Option (Unit × HS) :=
  (FJ3_checkIndex_8e157 w a0 a1).bind fun q1 =>
  (some ((), q1.2))
set_option maxHeartbeats 4000000 in
set_option maxRecDepth 100000 in
theorem rJ0_checkIndex_df160 {ar : Nat → Nat → Nat} {c0 : Nat → Nat} {sz : Nat} {g : PH} {w w' : HS} {a0 : Int32} {a1 : Int32} {r : Unit} (P : Rel ar c0 sz g w) (hF : FJ0_checkIndex_df160 w a0 a1 = some (r, w')) : GR ar c0 sz r w' (fJ0_checkIndex_df160 g a0 a1) := by
  unfold FJ0_checkIndex_df160 at hF
  unfold fJ0_checkIndex_df160
  replace hF := ob_some hF
  obtain ⟨q1, h2, hF⟩ := hF
  obtain ⟨g3, e4, P⟩ := rJ3_checkIndex_8e157 (r := q1.1) (w' := q1.2) P h2
  refine GR.bind e4 ?_
  obtain ⟨f1, f2⟩ := finW hF
  subst f1
  subst f2
  exact GR.ret P
def FJ1_charAt_3b067 (w : HS) (a0 : Nat) (a1 : Int32) : Option (Int32 × HS) :=
  okb (decide (a0 < 15)) ((FJ0_checkIndex_df160 w a1 (Int32.ofNat (strB a0).length)).bind fun q2 =>
  (okb (decide (a0 < 15)) (okb (inb a1 (strB a0).length) (okb (vp_nar .char ((((strB a0).getD a1.toNatClampNeg 0) &&& (255 : Int32)).toUInt32 % 65536).toInt32 == ((((strB a0).getD a1.toNatClampNeg 0) &&& (255 : Int32)).toUInt32 % 65536).toInt32) (some (((((strB a0).getD a1.toNatClampNeg 0) &&& (255 : Int32)).toUInt32 % 65536).toInt32, q2.2))))))
set_option maxHeartbeats 4000000 in
set_option maxRecDepth 100000 in
theorem rJ1_charAt_3b067 {ar : Nat → Nat → Nat} {c0 : Nat → Nat} {sz : Nat} {g : PH} {w w' : HS} {a0 : Nat} {a1 : Int32} {r : Int32} (P : Rel ar c0 sz g w) (hF : FJ1_charAt_3b067 w a0 a1 = some (r, w')) : GR ar c0 sz r w' (fJ1_charAt_3b067 g a0 a1) := by
  unfold FJ1_charAt_3b067 at hF
  unfold fJ1_charAt_3b067
  replace hF := okb_some hF
  obtain ⟨h1, hF⟩ := hF
  refine GR.ok h1 ?_
  replace hF := ob_some hF
  obtain ⟨q2, h3, hF⟩ := hF
  obtain ⟨g4, e5, P⟩ := rJ0_checkIndex_df160 (r := q2.1) (w' := q2.2) P h3
  refine GR.bind e5 ?_
  replace hF := okb_some hF
  obtain ⟨h6, hF⟩ := hF
  refine GR.ok h6 ?_
  replace hF := okb_some hF
  obtain ⟨h7, hF⟩ := hF
  refine GR.ok h7 ?_
  replace hF := okb_some hF
  obtain ⟨h8, hF⟩ := hF
  refine GR.ok h8 ?_
  obtain ⟨f1, f2⟩ := finW hF
  subst f1
  subst f2
  exact GR.ret P
def FJ0_charAt_5068e (w : HS) (a0 : Nat) (a1 : Int32) : Option (Int32 × HS) :=
  okb (decide (a0 < 15)) ((FJ0_isLatin1_aae02 w a0).bind fun q1 =>
  (if q1.1 = 0 then (none) else
  (okb (decide (a0 < 15)) ((FJ1_charAt_3b067 q1.2 a0 a1).bind fun q7 =>
  (okb (vp_nar .char q7.1 == q7.1) (some (q7.1, q7.2)))))))
set_option maxHeartbeats 4000000 in
set_option maxRecDepth 100000 in
theorem rJ0_charAt_5068e {ar : Nat → Nat → Nat} {c0 : Nat → Nat} {sz : Nat} {g : PH} {w w' : HS} {a0 : Nat} {a1 : Int32} {r : Int32} (P : Rel ar c0 sz g w) (hF : FJ0_charAt_5068e w a0 a1 = some (r, w')) : GR ar c0 sz r w' (fJ0_charAt_5068e g a0 a1) := by
  unfold FJ0_charAt_5068e at hF
  unfold fJ0_charAt_5068e
  replace hF := okb_some hF
  obtain ⟨h0, hF⟩ := hF
  refine GR.ok h0 ?_
  replace hF := ob_some hF
  obtain ⟨q1, h2, hF⟩ := hF
  obtain ⟨g3, e4, P⟩ := rJ0_isLatin1_aae02 (r := q1.1) (w' := q1.2) P h2
  refine GR.bind e4 ?_
  by_cases c5 : q1.1 = 0
  · replace hF := ite_t c5 hF
    refine GR.t c5 ?_
    cases hF
  replace hF := ite_f c5 hF
  refine GR.f c5 ?_
  replace hF := okb_some hF
  obtain ⟨h6, hF⟩ := hF
  refine GR.ok h6 ?_
  replace hF := ob_some hF
  obtain ⟨q7, h8, hF⟩ := hF
  obtain ⟨g9, e10, P⟩ := rJ1_charAt_3b067 (r := q7.1) (w' := q7.2) P h8
  refine GR.bind e10 ?_
  replace hF := okb_some hF
  obtain ⟨h11, hF⟩ := hF
  refine GR.ok h11 ?_
  obtain ⟨f1, f2⟩ := finW hF
  subst f1
  subst f2
  exact GR.ret P
def FJ1_indexOfChar_4cfef_7  : Nat → HS → Nat → Int32 → Int32 → Int32 → Option (Int32 × HS)
  | 0, _, _, _, _, _ => none
  | n + 1, w, v0, v3, v4, v5 =>
  if v3 ≤ v5 then (some ((-1 : Int32), w)) else
  (okb (decide (v0 < 15)) (okb (inb v5 (strB v0).length) (if ((strB v0).getD v5.toNatClampNeg 0) = v4 then (some (v5, w)) else
  (FJ1_indexOfChar_4cfef_7 n w v0 v3 v4 (v5 + (1 : Int32))))))
set_option maxHeartbeats 4000000 in
set_option maxRecDepth 100000 in
theorem rJ1_indexOfChar_4cfef_7 {ar : Nat → Nat → Nat} {c0 : Nat → Nat} {sz : Nat} {r : Int32} {w' : HS}   : ∀ (n : Nat) (g : PH) (w : HS) (v0 : Nat) (v3 : Int32) (v4 : Int32) (v5 : Int32), Rel ar c0 sz g w → FJ1_indexOfChar_4cfef_7  n w v0 v3 v4 v5 = some (r, w') → GR ar c0 sz r w' (fJ1_indexOfChar_4cfef_7  n g v0 v3 v4 v5) := by
  intro n
  induction n with
  | zero =>
    intro g w v0 v3 v4 v5 P hF
    rw [FJ1_indexOfChar_4cfef_7] at hF
    cases hF
  | succ n ih =>
    intro g w v0 v3 v4 v5 P hF
    rw [FJ1_indexOfChar_4cfef_7] at hF
    rw [fJ1_indexOfChar_4cfef_7]
    by_cases c1 : v3 ≤ v5
    · replace hF := ite_t c1 hF
      refine GR.t c1 ?_
      obtain ⟨f1, f2⟩ := finW hF
      subst f1
      subst f2
      exact GR.ret P
    replace hF := ite_f c1 hF
    refine GR.f c1 ?_
    replace hF := okb_some hF
    obtain ⟨h2, hF⟩ := hF
    refine GR.ok h2 ?_
    replace hF := okb_some hF
    obtain ⟨h3, hF⟩ := hF
    refine GR.ok h3 ?_
    by_cases c4 : ((strB v0).getD v5.toNatClampNeg 0) = v4
    · replace hF := ite_t c4 hF
      refine GR.t c4 ?_
      obtain ⟨f1, f2⟩ := finW hF
      subst f1
      subst f2
      exact GR.ret P
    replace hF := ite_f c4 hF
    refine GR.f c4 ?_
    exact ih _ _ _ _ _ _ P hF
def FJ1_indexOfChar_4cfef (w : HS) (a0 : Nat) (a1 : Int32) (a2 : Int32) (a3 : Int32) : Option (Int32 × HS) :=
  FJ1_indexOfChar_4cfef_7 FUEL w a0 a3 a1.toInt8.toInt32 a2
set_option maxHeartbeats 4000000 in
set_option maxRecDepth 100000 in
theorem rJ1_indexOfChar_4cfef {ar : Nat → Nat → Nat} {c0 : Nat → Nat} {sz : Nat} {g : PH} {w w' : HS} {a0 : Nat} {a1 : Int32} {a2 : Int32} {a3 : Int32} {r : Int32} (P : Rel ar c0 sz g w) (hF : FJ1_indexOfChar_4cfef w a0 a1 a2 a3 = some (r, w')) : GR ar c0 sz r w' (fJ1_indexOfChar_4cfef g a0 a1 a2 a3) := by
  unfold FJ1_indexOfChar_4cfef at hF
  unfold fJ1_indexOfChar_4cfef
  exact rJ1_indexOfChar_4cfef_7  _ _ _ _ _ _ _ P hF
def FJ1_indexOf_4cfef (w : HS) (a0 : Nat) (a1 : Int32) (a2 : Int32) (a3 : Int32) : Option (Int32 × HS) :=
  (FJ1_canEncode_9a6ad w a1).bind fun q1 =>
  (if q1.1 = 0 then (some ((-1 : Int32), q1.2)) else
  (okb (decide (a0 < 15)) (if (if a2 < (0 : Int32) then (0 : Int32) else a2) < (if (Int32.ofNat (strB a0).length) < a3 then (Int32.ofNat (strB a0).length) else a3) then ((FJ1_indexOfChar_4cfef q1.2 a0 a1 (if a2 < (0 : Int32) then (0 : Int32) else a2) (if (Int32.ofNat (strB a0).length) < a3 then (Int32.ofNat (strB a0).length) else a3)).bind fun q8 =>
  (some (q8.1, q8.2))) else
  (some ((-1 : Int32), q1.2)))))
set_option maxHeartbeats 4000000 in
set_option maxRecDepth 100000 in
theorem rJ1_indexOf_4cfef {ar : Nat → Nat → Nat} {c0 : Nat → Nat} {sz : Nat} {g : PH} {w w' : HS} {a0 : Nat} {a1 : Int32} {a2 : Int32} {a3 : Int32} {r : Int32} (P : Rel ar c0 sz g w) (hF : FJ1_indexOf_4cfef w a0 a1 a2 a3 = some (r, w')) : GR ar c0 sz r w' (fJ1_indexOf_4cfef g a0 a1 a2 a3) := by
  unfold FJ1_indexOf_4cfef at hF
  unfold fJ1_indexOf_4cfef
  replace hF := ob_some hF
  obtain ⟨q1, h2, hF⟩ := hF
  obtain ⟨g3, e4, P⟩ := rJ1_canEncode_9a6ad (r := q1.1) (w' := q1.2) P h2
  refine GR.bind e4 ?_
  by_cases c5 : q1.1 = 0
  · replace hF := ite_t c5 hF
    refine GR.t c5 ?_
    obtain ⟨f1, f2⟩ := finW hF
    subst f1
    subst f2
    exact GR.ret P
  replace hF := ite_f c5 hF
  refine GR.f c5 ?_
  replace hF := okb_some hF
  obtain ⟨h6, hF⟩ := hF
  refine GR.ok h6 ?_
  by_cases c7 : (if a2 < (0 : Int32) then (0 : Int32) else a2) < (if (Int32.ofNat (strB a0).length) < a3 then (Int32.ofNat (strB a0).length) else a3)
  · replace hF := ite_t c7 hF
    refine GR.t c7 ?_
    replace hF := ob_some hF
    obtain ⟨q8, h9, hF⟩ := hF
    obtain ⟨g10, e11, P⟩ := rJ1_indexOfChar_4cfef (r := q8.1) (w' := q8.2) P h9
    refine GR.bind e11 ?_
    obtain ⟨f1, f2⟩ := finW hF
    subst f1
    subst f2
    exact GR.ret P
  replace hF := ite_f c7 hF
  refine GR.f c7 ?_
  obtain ⟨f1, f2⟩ := finW hF
  subst f1
  subst f2
  exact GR.ret P
def FJ0_indexOf_7cf53 (w : HS) (a0 : Nat) (a1 : Int32) (a2 : Int32) : Option (Int32 × HS) :=
  okb (decide (a0 < 15)) ((FJ0_isLatin1_aae02 w a0).bind fun q1 =>
  (if q1.1 = 0 then (none) else
  (okb (decide (a0 < 15)) ((FJ0_length_8abf5 q1.2 a0).bind fun q7 =>
  ((FJ1_indexOf_4cfef q7.2 a0 a1 a2 q7.1).bind fun q11 =>
  (some (q11.1, q11.2)))))))
set_option maxHeartbeats 4000000 in
set_option maxRecDepth 100000 in
theorem rJ0_indexOf_7cf53 {ar : Nat → Nat → Nat} {c0 : Nat → Nat} {sz : Nat} {g : PH} {w w' : HS} {a0 : Nat} {a1 : Int32} {a2 : Int32} {r : Int32} (P : Rel ar c0 sz g w) (hF : FJ0_indexOf_7cf53 w a0 a1 a2 = some (r, w')) : GR ar c0 sz r w' (fJ0_indexOf_7cf53 g a0 a1 a2) := by
  unfold FJ0_indexOf_7cf53 at hF
  unfold fJ0_indexOf_7cf53
  replace hF := okb_some hF
  obtain ⟨h0, hF⟩ := hF
  refine GR.ok h0 ?_
  replace hF := ob_some hF
  obtain ⟨q1, h2, hF⟩ := hF
  obtain ⟨g3, e4, P⟩ := rJ0_isLatin1_aae02 (r := q1.1) (w' := q1.2) P h2
  refine GR.bind e4 ?_
  by_cases c5 : q1.1 = 0
  · replace hF := ite_t c5 hF
    refine GR.t c5 ?_
    cases hF
  replace hF := ite_f c5 hF
  refine GR.f c5 ?_
  replace hF := okb_some hF
  obtain ⟨h6, hF⟩ := hF
  refine GR.ok h6 ?_
  replace hF := ob_some hF
  obtain ⟨q7, h8, hF⟩ := hF
  obtain ⟨g9, e10, P⟩ := rJ0_length_8abf5 (r := q7.1) (w' := q7.2) P h8
  refine GR.bind e10 ?_
  replace hF := ob_some hF
  obtain ⟨q11, h12, hF⟩ := hF
  obtain ⟨g13, e14, P⟩ := rJ1_indexOf_4cfef (r := q11.1) (w' := q11.2) P h12
  refine GR.bind e14 ?_
  obtain ⟨f1, f2⟩ := finW hF
  subst f1
  subst f2
  exact GR.ret P
def FJ0_indexOf_0f7a4 (w : HS) (a0 : Nat) (a1 : Int32) : Option (Int32 × HS) :=
  okb (decide (a0 < 15)) ((FJ0_indexOf_7cf53 w a0 a1 (0 : Int32)).bind fun q1 =>
  (some (q1.1, q1.2)))
set_option maxHeartbeats 4000000 in
set_option maxRecDepth 100000 in
theorem rJ0_indexOf_0f7a4 {ar : Nat → Nat → Nat} {c0 : Nat → Nat} {sz : Nat} {g : PH} {w w' : HS} {a0 : Nat} {a1 : Int32} {r : Int32} (P : Rel ar c0 sz g w) (hF : FJ0_indexOf_0f7a4 w a0 a1 = some (r, w')) : GR ar c0 sz r w' (fJ0_indexOf_0f7a4 g a0 a1) := by
  unfold FJ0_indexOf_0f7a4 at hF
  unfold fJ0_indexOf_0f7a4
  replace hF := okb_some hF
  obtain ⟨h0, hF⟩ := hF
  refine GR.ok h0 ?_
  replace hF := ob_some hF
  obtain ⟨q1, h2, hF⟩ := hF
  obtain ⟨g3, e4, P⟩ := rJ0_indexOf_7cf53 (r := q1.1) (w' := q1.2) P h2
  refine GR.bind e4 ?_
  obtain ⟨f1, f2⟩ := finW hF
  subst f1
  subst f2
  exact GR.ret P
