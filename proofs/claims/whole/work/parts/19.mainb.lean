theorem dX8_bothOrders_0 : decode cX8_bothOrders 0 = .ok (.aload_n 0, 1) := by decide +kernel
theorem dX8_bothOrders_1 : decode cX8_bothOrders 1 = .ok (.iload_n 2, 1) := by decide +kernel
theorem dX8_bothOrders_2 : decode cX8_bothOrders 2 = .ok (.invokevirtual 94, 3) := by decide +kernel
theorem dX8_bothOrders_5 : decode cX8_bothOrders 5 = .ok (.astore_n 3, 1) := by decide +kernel
theorem dX8_bothOrders_6 : decode cX8_bothOrders 6 = .ok (.aload_n 0, 1) := by decide +kernel
theorem dX8_bothOrders_7 : decode cX8_bothOrders 7 = .ok (.iload_n 1, 1) := by decide +kernel
theorem dX8_bothOrders_8 : decode cX8_bothOrders 8 = .ok (.invokevirtual 112, 3) := by decide +kernel
theorem dX8_bothOrders_11 : decode cX8_bothOrders 11 = .ok (.astore 4, 2) := by decide +kernel
theorem dX8_bothOrders_13 : decode cX8_bothOrders 13 = .ok (.aload_n 3, 1) := by decide +kernel
theorem dX8_bothOrders_14 : decode cX8_bothOrders 14 = .ok (.ifnull 8, 3) := by decide +kernel
theorem dX8_bothOrders_17 : decode cX8_bothOrders 17 = .ok (.aload 4, 2) := by decide +kernel
theorem dX8_bothOrders_19 : decode cX8_bothOrders 19 = .ok (.ifnonnull 5, 3) := by decide +kernel
theorem dX8_bothOrders_22 : decode cX8_bothOrders 22 = .ok (.iconst (-1), 1) := by decide +kernel
theorem dX8_bothOrders_23 : decode cX8_bothOrders 23 = .ok (.ireturn, 1) := by decide +kernel
theorem dX8_bothOrders_24 : decode cX8_bothOrders 24 = .ok (.iload_n 1, 1) := by decide +kernel
theorem dX8_bothOrders_25 : decode cX8_bothOrders 25 = .ok (.bipush 8, 2) := by decide +kernel
theorem dX8_bothOrders_27 : decode cX8_bothOrders 27 = .ok (.imul, 1) := by decide +kernel
theorem dX8_bothOrders_28 : decode cX8_bothOrders 28 = .ok (.iload_n 2, 1) := by decide +kernel
theorem dX8_bothOrders_29 : decode cX8_bothOrders 29 = .ok (.iadd, 1) := by decide +kernel
theorem dX8_bothOrders_30 : decode cX8_bothOrders 30 = .ok (.istore 5, 2) := by decide +kernel
theorem dX8_bothOrders_32 : decode cX8_bothOrders 32 = .ok (.aload_n 0, 1) := by decide +kernel
theorem dX8_bothOrders_33 : decode cX8_bothOrders 33 = .ok (.getfield 56, 3) := by decide +kernel
theorem dX8_bothOrders_36 : decode cX8_bothOrders 36 = .ok (.iload 5, 2) := by decide +kernel
theorem dX8_bothOrders_38 : decode cX8_bothOrders 38 = .ok (.iaload, 1) := by decide +kernel
theorem dX8_bothOrders_39 : decode cX8_bothOrders 39 = .ok (.ifCond .ne 71, 3) := by decide +kernel
theorem dX8_bothOrders_42 : decode cX8_bothOrders 42 = .ok (.aload_n 0, 1) := by decide +kernel
theorem dX8_bothOrders_43 : decode cX8_bothOrders 43 = .ok (.getfield 52, 3) := by decide +kernel
theorem dX8_bothOrders_46 : decode cX8_bothOrders 46 = .ok (.iconst 2, 1) := by decide +kernel
theorem dX8_bothOrders_47 : decode cX8_bothOrders 47 = .ok (.iconst 0, 1) := by decide +kernel
theorem dX8_bothOrders_48 : decode cX8_bothOrders 48 = .ok (.iconst 1, 1) := by decide +kernel
theorem dX8_bothOrders_49 : decode cX8_bothOrders 49 = .ok (.invokevirtual 292, 3) := by decide +kernel
theorem dX8_bothOrders_52 : decode cX8_bothOrders 52 = .ok (.aload_n 0, 1) := by decide +kernel
theorem dX8_bothOrders_53 : decode cX8_bothOrders 53 = .ok (.aload_n 3, 1) := by decide +kernel
theorem dX8_bothOrders_54 : decode cX8_bothOrders 54 = .ok (.aload 4, 2) := by decide +kernel
theorem dX8_bothOrders_56 : decode cX8_bothOrders 56 = .ok (.invokevirtual 296, 3) := by decide +kernel
theorem dX8_bothOrders_59 : decode cX8_bothOrders 59 = .ok (.ifCond .eq 7, 3) := by decide +kernel
theorem dX8_bothOrders_62 : decode cX8_bothOrders 62 = .ok (.iconst 1, 1) := by decide +kernel
theorem dX8_bothOrders_63 : decode cX8_bothOrders 63 = .ok (.goto 4, 3) := by decide +kernel
theorem dX8_bothOrders_66 : decode cX8_bothOrders 66 = .ok (.iconst 0, 1) := by decide +kernel
theorem dX8_bothOrders_67 : decode cX8_bothOrders 67 = .ok (.istore 6, 2) := by decide +kernel
theorem dX8_bothOrders_69 : decode cX8_bothOrders 69 = .ok (.aload_n 0, 1) := by decide +kernel
theorem dX8_bothOrders_70 : decode cX8_bothOrders 70 = .ok (.getfield 52, 3) := by decide +kernel
theorem dX8_bothOrders_73 : decode cX8_bothOrders 73 = .ok (.iconst 2, 1) := by decide +kernel
theorem dX8_bothOrders_74 : decode cX8_bothOrders 74 = .ok (.iconst 1, 1) := by decide +kernel
theorem dX8_bothOrders_75 : decode cX8_bothOrders 75 = .ok (.iconst 0, 1) := by decide +kernel
theorem dX8_bothOrders_76 : decode cX8_bothOrders 76 = .ok (.invokevirtual 292, 3) := by decide +kernel
theorem dX8_bothOrders_79 : decode cX8_bothOrders 79 = .ok (.iload 6, 2) := by decide +kernel
theorem dX8_bothOrders_81 : decode cX8_bothOrders 81 = .ok (.aload_n 0, 1) := by decide +kernel
theorem dX8_bothOrders_82 : decode cX8_bothOrders 82 = .ok (.aload_n 3, 1) := by decide +kernel
theorem dX8_bothOrders_83 : decode cX8_bothOrders 83 = .ok (.aload 4, 2) := by decide +kernel
theorem dX8_bothOrders_85 : decode cX8_bothOrders 85 = .ok (.invokevirtual 296, 3) := by decide +kernel
theorem dX8_bothOrders_88 : decode cX8_bothOrders 88 = .ok (.ifCond .eq 7, 3) := by decide +kernel
theorem dX8_bothOrders_91 : decode cX8_bothOrders 91 = .ok (.iconst 2, 1) := by decide +kernel
theorem dX8_bothOrders_92 : decode cX8_bothOrders 92 = .ok (.goto 4, 3) := by decide +kernel
theorem dX8_bothOrders_95 : decode cX8_bothOrders 95 = .ok (.iconst 0, 1) := by decide +kernel
theorem dX8_bothOrders_96 : decode cX8_bothOrders 96 = .ok (.iadd, 1) := by decide +kernel
theorem dX8_bothOrders_97 : decode cX8_bothOrders 97 = .ok (.istore 6, 2) := by decide +kernel
theorem dX8_bothOrders_99 : decode cX8_bothOrders 99 = .ok (.aload_n 0, 1) := by decide +kernel
theorem dX8_bothOrders_100 : decode cX8_bothOrders 100 = .ok (.getfield 56, 3) := by decide +kernel
theorem dX8_bothOrders_103 : decode cX8_bothOrders 103 = .ok (.iload 5, 2) := by decide +kernel
theorem dX8_bothOrders_105 : decode cX8_bothOrders 105 = .ok (.iconst 1, 1) := by decide +kernel
theorem dX8_bothOrders_106 : decode cX8_bothOrders 106 = .ok (.iload 6, 2) := by decide +kernel
theorem dX8_bothOrders_108 : decode cX8_bothOrders 108 = .ok (.iadd, 1) := by decide +kernel
theorem dX8_bothOrders_109 : decode cX8_bothOrders 109 = .ok (.iastore, 1) := by decide +kernel
theorem dX8_bothOrders_110 : decode cX8_bothOrders 110 = .ok (.aload_n 0, 1) := by decide +kernel
theorem dX8_bothOrders_111 : decode cX8_bothOrders 111 = .ok (.getfield 56, 3) := by decide +kernel
theorem dX8_bothOrders_114 : decode cX8_bothOrders 114 = .ok (.iload 5, 2) := by decide +kernel
theorem dX8_bothOrders_116 : decode cX8_bothOrders 116 = .ok (.iaload, 1) := by decide +kernel
theorem dX8_bothOrders_117 : decode cX8_bothOrders 117 = .ok (.iconst 1, 1) := by decide +kernel
theorem dX8_bothOrders_118 : decode cX8_bothOrders 118 = .ok (.isub, 1) := by decide +kernel
theorem dX8_bothOrders_119 : decode cX8_bothOrders 119 = .ok (.ireturn, 1) := by decide +kernel
def fX8_bothOrders_96  (g : PH) (v0 : Nat) (v5 : Int32) (s0 : Int32) (s1 : Int32) : Option (Int32 × PH) :=
  (getR g v0 8 8).bind fun p1 =>
  ((stI g p1 0 v5 ((1 : Int32) + (s1 + s0))).bind fun g3 =>
  ((getR g3 v0 8 8).bind fun p5 =>
  ((ldI g3 p5 0 v5).bind fun x7 =>
  (some ((x7 - (1 : Int32)), g3)))))
set_option maxHeartbeats 4000000 in
set_option maxRecDepth 100000 in
theorem bX8_bothOrders_96 {K : HK} {E : HE} {r : Int32} {g' : PH}  (C : VC K E 7 cX8_bothOrders RX8 (some .int))  {g : PH} {v0 : Nat} {v5 : Int32} {s0 : Int32} {s1 : Int32} (hf : fX8_bothOrders_96  g v0 v5 s0 s1 = some (r, g')) : V K E (hRm 5 130 0 0) 7 (hZ K E (some (.int r)) g' 0 0) 0 0 (kS K) g 96 [(0, .ref v0), (5, .int v5)] [.int s0, .int s1] := by
  unfold fX8_bothOrders_96 at hf
  refine V.iadd (pc := 96) C dX8_bothOrders_96 ?_
  refine V.istore (pc := 97) (L' := [(6, .int (s1 + s0)), (0, .ref v0), (5, .int v5)]) C dX8_bothOrders_97 (by decide) rfl ?_
  refine V.aload_n (pc := 99) C dX8_bothOrders_99 1 rfl ?_
  replace hf := ob_some hf
  obtain ⟨p1, h2, hf⟩ := hf
  refine V.getR (pc := 100) C kX8 (k := 8) (by decide) wd_196 h2 dX8_bothOrders_100 ?_
  refine V.iload (pc := 103) C dX8_bothOrders_103 2 rfl ?_
  refine V.iconst (pc := 105) C dX8_bothOrders_105 (v := (1 : Int32)) (by decide) ?_
  refine V.iload (pc := 106) C dX8_bothOrders_106 0 rfl ?_
  refine V.iadd (pc := 108) C dX8_bothOrders_108 ?_
  replace hf := ob_some hf
  obtain ⟨g3, h4, hf⟩ := hf
  refine V.iast (pc := 109) C h4 dX8_bothOrders_109 ?_
  refine V.aload_n (pc := 110) C dX8_bothOrders_110 1 rfl ?_
  replace hf := ob_some hf
  obtain ⟨p5, h6, hf⟩ := hf
  refine V.getR (pc := 111) C kX8 (k := 8) (by decide) wd_196 h6 dX8_bothOrders_111 ?_
  refine V.iload (pc := 114) C dX8_bothOrders_114 2 rfl ?_
  replace hf := ob_some hf
  obtain ⟨x7, h8, hf⟩ := hf
  refine V.iald (pc := 116) C h8 dX8_bothOrders_116 ?_
  refine V.iconst (pc := 117) C dX8_bothOrders_117 (v := (1 : Int32)) (by decide) ?_
  refine V.isub (pc := 118) C dX8_bothOrders_118 ?_
  obtain ⟨f1, f2⟩ := fin2 hf
  clear hf
  subst f1
  subst f2
  exact V.iret (pc := 119) C rfl dX8_bothOrders_119
def fX8_bothOrders_67  (g : PH) (v0 : Nat) (v3 : Nat) (v4 : Nat) (v5 : Int32) (s0 : Int32) : Option (Int32 × PH) :=
  (getR g v0 8 7).bind fun p1 =>
  ((fX7_place g p1 (2 : Int32) (1 : Int32) (0 : Int32)).bind fun q3 =>
  ((fX8_isAlwaysSeen q3.2 v0 v3 v4).bind fun q5 =>
  (if q5.1 = 0 then (fX8_bothOrders_96 q5.2 v0 v5 (0 : Int32) s0) else
  (fX8_bothOrders_96 q5.2 v0 v5 (2 : Int32) s0))))
set_option maxHeartbeats 4000000 in
set_option maxRecDepth 100000 in
theorem bX8_bothOrders_67 {K : HK} {E : HE} {r : Int32} {g' : PH}  (C : VC K E 7 cX8_bothOrders RX8 (some .int))  {g : PH} {v0 : Nat} {v3 : Nat} {v4 : Nat} {v5 : Int32} {s0 : Int32} (hf : fX8_bothOrders_67  g v0 v3 v4 v5 s0 = some (r, g')) : V K E (hRm 5 130 0 0) 7 (hZ K E (some (.int r)) g' 0 0) 0 0 (kS K) g 67 [(0, .ref v0), (3, .ref v3), (4, .ref v4), (5, .int v5)] [.int s0] := by
  unfold fX8_bothOrders_67 at hf
  refine V.istore (pc := 67) (L' := [(6, .int s0), (0, .ref v0), (3, .ref v3), (4, .ref v4), (5, .int v5)]) C dX8_bothOrders_67 (by decide) rfl ?_
  refine V.aload_n (pc := 69) C dX8_bothOrders_69 1 rfl ?_
  replace hf := ob_some hf
  obtain ⟨p1, h2, hf⟩ := hf
  refine V.getR (pc := 70) C kX8 (k := 7) (by decide) wd_195 h2 dX8_bothOrders_70 ?_
  refine V.iconst (pc := 73) C dX8_bothOrders_73 (v := (2 : Int32)) (by decide) ?_
  refine V.iconst (pc := 74) C dX8_bothOrders_74 (v := (1 : Int32)) (by decide) ?_
  refine V.iconst (pc := 75) C dX8_bothOrders_75 (v := (0 : Int32)) (by decide) ?_
  replace hf := ob_some hf
  obtain ⟨q3, h4, hf⟩ := hf
  refine V.callV0v (pc := 76) C hyX7_place wd_578 (mX7_place (r := q3.1) (g' := q3.2) K.2.1 E (kS K) h4) rfl rfl rfl (oX7_place h4) ⟨Nat.le_of_ble_eq_true rfl, Nat.le_of_ble_eq_true rfl⟩ (Nat.le_of_ble_eq_true rfl) dX8_bothOrders_76 ⟨Nat.zero_le _, Nat.zero_le _⟩ rfl ?_
  refine V.iload (pc := 79) C dX8_bothOrders_79 0 rfl ?_
  refine V.aload_n (pc := 81) C dX8_bothOrders_81 1 rfl ?_
  refine V.aload_n (pc := 82) C dX8_bothOrders_82 2 rfl ?_
  refine V.aload (pc := 83) C dX8_bothOrders_83 3 rfl ?_
  replace hf := ob_some hf
  obtain ⟨q5, h6, hf⟩ := hf
  refine V.callV0i (pc := 85) C hyX8_isAlwaysSeen wd_582 (mX8_isAlwaysSeen (r := q5.1) (g' := q5.2) K.2.1 E (kS K) h6) rfl rfl rfl (oX8_isAlwaysSeen h6) ⟨Nat.le_of_ble_eq_true rfl, Nat.le_of_ble_eq_true rfl⟩ (Nat.le_of_ble_eq_true rfl) dX8_bothOrders_85 ⟨Nat.zero_le _, Nat.zero_le _⟩ rfl ?_
  refine V.if_eq (pc := 88) (t := 95) C dX8_bothOrders_88 (by decide) (fun c7 => ?_) (fun c7 => ?_)
  · replace hf := ite_t c7 hf
    refine V.iconst (pc := 95) C dX8_bothOrders_95 (v := (0 : Int32)) (by decide) ?_
    refine V.sub (L' := [(0, .ref v0), (5, .int v5)]) [1, 4] rfl ?_
    exact bX8_bothOrders_96 C  hf
  replace hf := ite_f c7 hf
  refine V.iconst (pc := 91) C dX8_bothOrders_91 (v := (2 : Int32)) (by decide) ?_
  refine V.goto (pc := 92) (t := 96) C dX8_bothOrders_92 (by decide) ?_
  refine V.sub (L' := [(0, .ref v0), (5, .int v5)]) [1, 4] rfl ?_
  exact bX8_bothOrders_96 C  hf
def fX8_bothOrders (g : PH) (a0 : Nat) (a1 : Int32) (a2 : Int32) : Option (Int32 × PH) :=
  okb (isO g a0 8) ((fX8_kindAt g a0 a2).bind fun (z2, g3) =>
  ((fX8_marchAt g3 a0 a1).bind fun (z6, g7) =>
  (z2.elim (some ((-1 : Int32), g7)) (fun p9 =>
  z6.elim (some ((-1 : Int32), g7)) (fun p10 =>
  (getR g7 a0 8 8).bind fun p11 =>
  ((ldI g7 p11 0 ((a1 * (8 : Int32)) + a2)).bind fun x13 =>
  (if x13 = 0 then ((getR g7 a0 8 7).bind fun p20 =>
  ((fX7_place g7 p20 (2 : Int32) (0 : Int32) (1 : Int32)).bind fun q22 =>
  ((fX8_isAlwaysSeen q22.2 a0 p9 p10).bind fun q24 =>
  (if q24.1 = 0 then (fX8_bothOrders_67 q24.2 a0 p9 p10 ((a1 * (8 : Int32)) + a2) (0 : Int32)) else
  (fX8_bothOrders_67 q24.2 a0 p9 p10 ((a1 * (8 : Int32)) + a2) (1 : Int32)))))) else
  ((getR g7 a0 8 8).bind fun p16 =>
  ((ldI g7 p16 0 ((a1 * (8 : Int32)) + a2)).bind fun x18 =>
  (some ((x18 - (1 : Int32)), g7)))))))))))
theorem oX8_bothOrders {g : PH} {a0 : Nat} {a1 : Int32} {a2 : Int32} {q : (Int32 × PH)} (h : fX8_bothOrders g a0 a1 a2 = some q) : isO g a0 8 = true := by unfold fX8_bothOrders at h; exact (okb_some h).1
theorem hyX8_bothOrders : hMet yX8_bothOrders RX8 cX8_bothOrders 7 (some .int) 2 := ⟨wd_577, wd_576, ws_16, wd_1, rfl, by decide +kernel, by decide +kernel, by decide +kernel⟩
set_option maxHeartbeats 4000000 in
set_option maxRecDepth 100000 in
theorem mX8_bothOrders (l : Launch) (E : HE) (sz : Nat) {g g' : PH} {a0 : Nat} {a1 : Int32} {a2 : Int32} {r : Int32} (hf : fX8_bothOrders g a0 a1 a2 = some (r, g')) : hM l E yX8_bothOrders cX8_bothOrders 7 (some .int) 5 130 0 0 sz g [.ref a0, .int a1, .int a2] (some (.int r)) g' := by
  refine hM.of (by decide) (Nat.le_of_ble_eq_true rfl) (fun K hl C hin hsz => ?_)
  subst hl
  subst hsz
  have C : VC K E 7 cX8_bothOrders RX8 (some .int) := C
  unfold fX8_bothOrders at hf
  replace hf := okb_some hf
  obtain ⟨ho, hf⟩ := hf
  refine V.start (L' := [(0, .ref a0), (1, .int a1), (2, .int a2)]) rfl ?_
  refine V.aload_n (pc := 0) C dX8_bothOrders_0 0 rfl ?_
  refine V.iload_n (pc := 1) C dX8_bothOrders_1 2 rfl ?_
  replace hf := ob_some hf
  obtain ⟨⟨z2, g3⟩, h4, hf⟩ := hf
  dsimp only at hf
  refine V.callV0q (pc := 2) C hyX8_kindAt wd_537 (mX8_kindAt (r := z2) (g' := g3) K.2.1 E (kS K) h4) rfl rfl rfl (oX8_kindAt h4) ⟨Nat.le_of_ble_eq_true rfl, Nat.le_of_ble_eq_true rfl⟩ (Nat.le_of_ble_eq_true rfl) dX8_bothOrders_2 ⟨Nat.zero_le _, Nat.zero_le _⟩ rfl ?_
  refine V.astore_nQ (pc := 5) (L' := [(3, va_rf z2), (0, .ref a0), (1, .int a1), (2, .int a2)]) C (x := z2) dX8_bothOrders_5 (by decide) rfl ?_
  refine V.aload_n (pc := 6) C dX8_bothOrders_6 1 rfl ?_
  refine V.iload_n (pc := 7) C dX8_bothOrders_7 2 rfl ?_
  replace hf := ob_some hf
  obtain ⟨⟨z6, g7⟩, h8, hf⟩ := hf
  dsimp only at hf
  refine V.callV0q (pc := 8) C hyX8_marchAt wd_549 (mX8_marchAt (r := z6) (g' := g7) K.2.1 E (kS K) h8) rfl rfl rfl (oX8_marchAt h8) ⟨Nat.le_of_ble_eq_true rfl, Nat.le_of_ble_eq_true rfl⟩ (Nat.le_of_ble_eq_true rfl) dX8_bothOrders_8 ⟨Nat.zero_le _, Nat.zero_le _⟩ rfl ?_
  refine V.astoreQ (pc := 11) (L' := [(4, va_rf z6), (3, va_rf z2), (0, .ref a0), (1, .int a1), (2, .int a2)]) C (x := z6) dX8_bothOrders_11 (by decide) (by cases z2 <;> rfl) ?_
  refine V.aload_nQ (pc := 13) C dX8_bothOrders_13 1 rfl ?_
  rcases z2 with _ | p9
  · refine V.ifnullN (pc := 14) (t := 22) C dX8_bothOrders_14 (by decide) ?_
    refine V.iconst (pc := 22) C dX8_bothOrders_22 (v := (-1 : Int32)) (by decide) ?_
    obtain ⟨f1, f2⟩ := fin2 hf
    clear hf
    subst f1
    subst f2
    exact V.iret (pc := 23) C rfl dX8_bothOrders_23
  refine V.ifnull (pc := 14) C dX8_bothOrders_14 ?_
  refine V.aloadQ (pc := 17) C dX8_bothOrders_17 0 rfl ?_
  rcases z6 with _ | p10
  · refine V.ifnonnullN (pc := 19) C dX8_bothOrders_19 ?_
    refine V.iconst (pc := 22) C dX8_bothOrders_22 (v := (-1 : Int32)) (by decide) ?_
    obtain ⟨f1, f2⟩ := fin2 hf
    clear hf
    subst f1
    subst f2
    exact V.iret (pc := 23) C rfl dX8_bothOrders_23
  refine V.ifnonnull (pc := 19) (t := 24) C dX8_bothOrders_19 (by decide) ?_
  refine V.iload_n (pc := 24) C dX8_bothOrders_24 3 rfl ?_
  refine V.bipush (pc := 25) C dX8_bothOrders_25 (v := (8 : Int32)) (by decide) ?_
  refine V.imul (pc := 27) C dX8_bothOrders_27 ?_
  refine V.iload_n (pc := 28) C dX8_bothOrders_28 4 rfl ?_
  refine V.iadd (pc := 29) C dX8_bothOrders_29 ?_
  refine V.istore (pc := 30) (L' := [(5, .int ((a1 * (8 : Int32)) + a2)), (4, .ref p10), (3, .ref p9), (0, .ref a0), (1, .int a1), (2, .int a2)]) C dX8_bothOrders_30 (by decide) rfl ?_
  refine V.aload_n (pc := 32) C dX8_bothOrders_32 3 rfl ?_
  replace hf := ob_some hf
  obtain ⟨p11, h12, hf⟩ := hf
  refine V.getR (pc := 33) C kX8 (k := 8) (by decide) wd_196 h12 dX8_bothOrders_33 ?_
  refine V.iload (pc := 36) C dX8_bothOrders_36 0 rfl ?_
  replace hf := ob_some hf
  obtain ⟨x13, h14, hf⟩ := hf
  refine V.iald (pc := 38) C h14 dX8_bothOrders_38 ?_
  refine V.if_ne (pc := 39) (t := 110) C dX8_bothOrders_39 (by decide) (fun c15 => ?_) (fun c15 => ?_)
  · replace hf := ite_f c15 hf
    refine V.aload_n (pc := 110) C dX8_bothOrders_110 3 rfl ?_
    replace hf := ob_some hf
    obtain ⟨p16, h17, hf⟩ := hf
    refine V.getR (pc := 111) C kX8 (k := 8) (by decide) wd_196 h17 dX8_bothOrders_111 ?_
    refine V.iload (pc := 114) C dX8_bothOrders_114 0 rfl ?_
    replace hf := ob_some hf
    obtain ⟨x18, h19, hf⟩ := hf
    refine V.iald (pc := 116) C h19 dX8_bothOrders_116 ?_
    refine V.iconst (pc := 117) C dX8_bothOrders_117 (v := (1 : Int32)) (by decide) ?_
    refine V.isub (pc := 118) C dX8_bothOrders_118 ?_
    obtain ⟨f1, f2⟩ := fin2 hf
    clear hf
    subst f1
    subst f2
    exact V.iret (pc := 119) C rfl dX8_bothOrders_119
  replace hf := ite_t c15 hf
  refine V.aload_n (pc := 42) C dX8_bothOrders_42 3 rfl ?_
  replace hf := ob_some hf
  obtain ⟨p20, h21, hf⟩ := hf
  refine V.getR (pc := 43) C kX8 (k := 7) (by decide) wd_195 h21 dX8_bothOrders_43 ?_
  refine V.iconst (pc := 46) C dX8_bothOrders_46 (v := (2 : Int32)) (by decide) ?_
  refine V.iconst (pc := 47) C dX8_bothOrders_47 (v := (0 : Int32)) (by decide) ?_
  refine V.iconst (pc := 48) C dX8_bothOrders_48 (v := (1 : Int32)) (by decide) ?_
  replace hf := ob_some hf
  obtain ⟨q22, h23, hf⟩ := hf
  refine V.callV0v (pc := 49) C hyX7_place wd_578 (mX7_place (r := q22.1) (g' := q22.2) K.2.1 E (kS K) h23) rfl rfl rfl (oX7_place h23) ⟨Nat.le_of_ble_eq_true rfl, Nat.le_of_ble_eq_true rfl⟩ (Nat.le_of_ble_eq_true rfl) dX8_bothOrders_49 ⟨Nat.zero_le _, Nat.zero_le _⟩ rfl ?_
  refine V.aload_n (pc := 52) C dX8_bothOrders_52 3 rfl ?_
  refine V.aload_n (pc := 53) C dX8_bothOrders_53 2 rfl ?_
  refine V.aload (pc := 54) C dX8_bothOrders_54 1 rfl ?_
  replace hf := ob_some hf
  obtain ⟨q24, h25, hf⟩ := hf
  refine V.callV0i (pc := 56) C hyX8_isAlwaysSeen wd_582 (mX8_isAlwaysSeen (r := q24.1) (g' := q24.2) K.2.1 E (kS K) h25) rfl rfl rfl (oX8_isAlwaysSeen h25) ⟨Nat.le_of_ble_eq_true rfl, Nat.le_of_ble_eq_true rfl⟩ (Nat.le_of_ble_eq_true rfl) dX8_bothOrders_56 ⟨Nat.zero_le _, Nat.zero_le _⟩ rfl ?_
  refine V.if_eq (pc := 59) (t := 66) C dX8_bothOrders_59 (by decide) (fun c26 => ?_) (fun c26 => ?_)
  · replace hf := ite_t c26 hf
    refine V.iconst (pc := 66) C dX8_bothOrders_66 (v := (0 : Int32)) (by decide) ?_
    refine V.sub (L' := [(0, .ref a0), (3, .ref p9), (4, .ref p10), (5, .int ((a1 * (8 : Int32)) + a2))]) [3, 2, 1, 0] rfl ?_
    exact bX8_bothOrders_67 C  hf
  replace hf := ite_f c26 hf
  refine V.iconst (pc := 62) C dX8_bothOrders_62 (v := (1 : Int32)) (by decide) ?_
  refine V.goto (pc := 63) (t := 67) C dX8_bothOrders_63 (by decide) ?_
  refine V.sub (L' := [(0, .ref a0), (3, .ref p9), (4, .ref p10), (5, .int ((a1 * (8 : Int32)) + a2))]) [3, 2, 1, 0] rfl ?_
  exact bX8_bothOrders_67 C  hf
theorem dX8_isAsked_0 : decode cX8_isAsked 0 = .ok (.iload_n 3, 1) := by decide +kernel
theorem dX8_isAsked_1 : decode cX8_isAsked 1 = .ok (.ifCond .eq 10, 3) := by decide +kernel
theorem dX8_isAsked_4 : decode cX8_isAsked 4 = .ok (.aload_n 1, 1) := by decide +kernel
theorem dX8_isAsked_5 : decode cX8_isAsked 5 = .ok (.getfield 101, 3) := by decide +kernel
theorem dX8_isAsked_8 : decode cX8_isAsked 8 = .ok (.ifCond .ne 5, 3) := by decide +kernel
theorem dX8_isAsked_11 : decode cX8_isAsked 11 = .ok (.iconst 1, 1) := by decide +kernel
theorem dX8_isAsked_12 : decode cX8_isAsked 12 = .ok (.ireturn, 1) := by decide +kernel
theorem dX8_isAsked_13 : decode cX8_isAsked 13 = .ok (.aload_n 1, 1) := by decide +kernel
theorem dX8_isAsked_14 : decode cX8_isAsked 14 = .ok (.iload_n 2, 1) := by decide +kernel
theorem dX8_isAsked_15 : decode cX8_isAsked 15 = .ok (.aload_n 0, 1) := by decide +kernel
theorem dX8_isAsked_16 : decode cX8_isAsked 16 = .ok (.getfield 38, 3) := by decide +kernel
theorem dX8_isAsked_19 : decode cX8_isAsked 19 = .ok (.getfield 105, 3) := by decide +kernel
theorem dX8_isAsked_22 : decode cX8_isAsked 22 = .ok (.invokevirtual 251, 3) := by decide +kernel
theorem dX8_isAsked_25 : decode cX8_isAsked 25 = .ok (.aload_n 1, 1) := by decide +kernel
theorem dX8_isAsked_26 : decode cX8_isAsked 26 = .ok (.iload_n 2, 1) := by decide +kernel
theorem dX8_isAsked_27 : decode cX8_isAsked 27 = .ok (.aload_n 0, 1) := by decide +kernel
theorem dX8_isAsked_28 : decode cX8_isAsked 28 = .ok (.getfield 38, 3) := by decide +kernel
theorem dX8_isAsked_31 : decode cX8_isAsked 31 = .ok (.getfield 105, 3) := by decide +kernel
theorem dX8_isAsked_34 : decode cX8_isAsked 34 = .ok (.invokevirtual 254, 3) := by decide +kernel
theorem dX8_isAsked_37 : decode cX8_isAsked 37 = .ok (.isub, 1) := by decide +kernel
theorem dX8_isAsked_38 : decode cX8_isAsked 38 = .ok (.istore 4, 2) := by decide +kernel
theorem dX8_isAsked_40 : decode cX8_isAsked 40 = .ok (.iload 4, 2) := by decide +kernel
theorem dX8_isAsked_42 : decode cX8_isAsked 42 = .ok (.iconst 1, 1) := by decide +kernel
theorem dX8_isAsked_43 : decode cX8_isAsked 43 = .ok (.if_icmp .eq 9, 3) := by decide +kernel
theorem dX8_isAsked_46 : decode cX8_isAsked 46 = .ok (.iload 4, 2) := by decide +kernel
theorem dX8_isAsked_48 : decode cX8_isAsked 48 = .ok (.iconst (-1), 1) := by decide +kernel
theorem dX8_isAsked_49 : decode cX8_isAsked 49 = .ok (.if_icmp .ne 7, 3) := by decide +kernel
theorem dX8_isAsked_52 : decode cX8_isAsked 52 = .ok (.iconst 1, 1) := by decide +kernel
theorem dX8_isAsked_53 : decode cX8_isAsked 53 = .ok (.goto 4, 3) := by decide +kernel
theorem dX8_isAsked_56 : decode cX8_isAsked 56 = .ok (.iconst 0, 1) := by decide +kernel
theorem dX8_isAsked_57 : decode cX8_isAsked 57 = .ok (.ireturn, 1) := by decide +kernel
def fX8_isAsked (g : PH) (a0 : Nat) (a1 : Nat) (a2 : Int32) (a3 : Int32) : Option (Int32 × PH) :=
  okb (isO g a0 8) (if a3 = 0 then (some ((1 : Int32), g)) else
  ((getI g a1 1 1).bind fun x2 =>
  (if x2 = 0 then (some ((1 : Int32), g)) else
  ((getR g a0 8 5).bind fun p5 =>
  ((getI g p5 3 0).bind fun x7 =>
  ((fX1_aggressorOf g a1 a2 x7).bind fun q9 =>
  ((getR q9.2 a0 8 5).bind fun p11 =>
  ((getI q9.2 p11 3 0).bind fun x13 =>
  ((fX1_victimOf q9.2 a1 a2 x13).bind fun q15 =>
  (if (q9.1 - q15.1) = (1 : Int32) then (some ((1 : Int32), q15.2)) else
  (if (q9.1 - q15.1) = (-1 : Int32) then (some ((1 : Int32), q15.2)) else
  (some ((0 : Int32), q15.2)))))))))))))
theorem oX8_isAsked {g : PH} {a0 : Nat} {a1 : Nat} {a2 : Int32} {a3 : Int32} {q : (Int32 × PH)} (h : fX8_isAsked g a0 a1 a2 a3 = some q) : isO g a0 8 = true := by unfold fX8_isAsked at h; exact (okb_some h).1
theorem hyX8_isAsked : hMet yX8_isAsked RX8 cX8_isAsked 5 (some .boolean) 3 := ⟨wd_629, wd_628, ws_22, wd_1, rfl, by decide +kernel, by decide +kernel, by decide +kernel⟩
set_option maxHeartbeats 4000000 in
set_option maxRecDepth 100000 in
theorem mX8_isAsked (l : Launch) (E : HE) (sz : Nat) {g g' : PH} {a0 : Nat} {a1 : Nat} {a2 : Int32} {a3 : Int32} {r : Int32} (hf : fX8_isAsked g a0 a1 a2 a3 = some (r, g')) : hM l E yX8_isAsked cX8_isAsked 5 (some .boolean) 2 45 0 0 sz g [.ref a0, .ref a1, .int a2, .int a3] (some (.int r)) g' := by
  refine hM.of (by decide) (Nat.le_of_ble_eq_true rfl) (fun K hl C hin hsz => ?_)
  subst hl
  subst hsz
  have C : VC K E 5 cX8_isAsked RX8 (some .boolean) := C
  unfold fX8_isAsked at hf
  replace hf := okb_some hf
  obtain ⟨ho, hf⟩ := hf
  refine V.start (L' := [(0, .ref a0), (1, .ref a1), (2, .int a2), (3, .int a3)]) rfl ?_
  refine V.iload_n (pc := 0) C dX8_isAsked_0 3 rfl ?_
  refine V.if_eq (pc := 1) (t := 11) C dX8_isAsked_1 (by decide) (fun c1 => ?_) (fun c1 => ?_)
  · replace hf := ite_t c1 hf
    refine V.iconst (pc := 11) C dX8_isAsked_11 (v := (1 : Int32)) (by decide) ?_
    obtain ⟨f1, f2⟩ := fin2 hf
    clear hf
    subst f1
    subst f2
    exact V.zret (pc := 12) C rfl rfl dX8_isAsked_12
  replace hf := ite_f c1 hf
  refine V.aload_n (pc := 4) C dX8_isAsked_4 1 rfl ?_
  replace hf := ob_some hf
  obtain ⟨x2, h3, hf⟩ := hf
  refine V.getI (pc := 5) C kX1 (k := 1) (by decide) wd_249 h3 dX8_isAsked_5 ?_
  refine V.if_ne (pc := 8) (t := 13) C dX8_isAsked_8 (by decide) (fun c4 => ?_) (fun c4 => ?_)
  · replace hf := ite_f c4 hf
    refine V.aload_n (pc := 13) C dX8_isAsked_13 1 rfl ?_
    refine V.iload_n (pc := 14) C dX8_isAsked_14 2 rfl ?_
    refine V.aload_n (pc := 15) C dX8_isAsked_15 0 rfl ?_
    replace hf := ob_some hf
    obtain ⟨p5, h6, hf⟩ := hf
    refine V.getR (pc := 16) C kX8 (k := 5) (by decide) wd_193 h6 dX8_isAsked_16 ?_
    replace hf := ob_some hf
    obtain ⟨x7, h8, hf⟩ := hf
    refine V.getI (pc := 19) C kX3 (k := 0) (by decide) wd_60 h8 dX8_isAsked_19 ?_
    replace hf := ob_some hf
    obtain ⟨q9, h10, hf⟩ := hf
    refine V.callV0i (pc := 22) C hyX1_aggressorOf wd_630 (mX1_aggressorOf (r := q9.1) (g' := q9.2) K.2.1 E (kS K) h10) rfl rfl rfl (oX1_aggressorOf h10) ⟨Nat.le_of_ble_eq_true rfl, Nat.le_of_ble_eq_true rfl⟩ (Nat.le_of_ble_eq_true rfl) dX8_isAsked_22 ⟨Nat.zero_le _, Nat.zero_le _⟩ rfl ?_
    refine V.aload_n (pc := 25) C dX8_isAsked_25 1 rfl ?_
    refine V.iload_n (pc := 26) C dX8_isAsked_26 2 rfl ?_
    refine V.aload_n (pc := 27) C dX8_isAsked_27 0 rfl ?_
    replace hf := ob_some hf
    obtain ⟨p11, h12, hf⟩ := hf
    refine V.getR (pc := 28) C kX8 (k := 5) (by decide) wd_193 h12 dX8_isAsked_28 ?_
    replace hf := ob_some hf
    obtain ⟨x13, h14, hf⟩ := hf
    refine V.getI (pc := 31) C kX3 (k := 0) (by decide) wd_60 h14 dX8_isAsked_31 ?_
    replace hf := ob_some hf
    obtain ⟨q15, h16, hf⟩ := hf
    refine V.callV0i (pc := 34) C hyX1_victimOf wd_635 (mX1_victimOf (r := q15.1) (g' := q15.2) K.2.1 E (kS K) h16) rfl rfl rfl (oX1_victimOf h16) ⟨Nat.le_of_ble_eq_true rfl, Nat.le_of_ble_eq_true rfl⟩ (Nat.le_of_ble_eq_true rfl) dX8_isAsked_34 ⟨Nat.zero_le _, Nat.zero_le _⟩ rfl ?_
    refine V.isub (pc := 37) C dX8_isAsked_37 ?_
    refine V.istore (pc := 38) (L' := [(4, .int (q9.1 - q15.1)), (0, .ref a0), (1, .ref a1), (2, .int a2), (3, .int a3)]) C dX8_isAsked_38 (by decide) rfl ?_
    refine V.iload (pc := 40) C dX8_isAsked_40 0 rfl ?_
    refine V.iconst (pc := 42) C dX8_isAsked_42 (v := (1 : Int32)) (by decide) ?_
    refine V.icmp_eq (pc := 43) (t := 52) C dX8_isAsked_43 (by decide) (fun c17 => ?_) (fun c17 => ?_)
    · replace hf := ite_t c17 hf
      refine V.iconst (pc := 52) C dX8_isAsked_52 (v := (1 : Int32)) (by decide) ?_
      refine V.goto (pc := 53) (t := 57) C dX8_isAsked_53 (by decide) ?_
      obtain ⟨f1, f2⟩ := fin2 hf
      clear hf
      subst f1
      subst f2
      exact V.zret (pc := 57) C rfl rfl dX8_isAsked_57
    replace hf := ite_f c17 hf
    refine V.iload (pc := 46) C dX8_isAsked_46 0 rfl ?_
    refine V.iconst (pc := 48) C dX8_isAsked_48 (v := (-1 : Int32)) (by decide) ?_
    refine V.icmp_ne (pc := 49) (t := 56) C dX8_isAsked_49 (by decide) (fun c18 => ?_) (fun c18 => ?_)
    · replace hf := ite_f c18 hf
      refine V.iconst (pc := 56) C dX8_isAsked_56 (v := (0 : Int32)) (by decide) ?_
      obtain ⟨f1, f2⟩ := fin2 hf
      clear hf
      subst f1
      subst f2
      exact V.zret (pc := 57) C rfl rfl dX8_isAsked_57
    replace hf := ite_t c18 hf
    refine V.iconst (pc := 52) C dX8_isAsked_52 (v := (1 : Int32)) (by decide) ?_
    refine V.goto (pc := 53) (t := 57) C dX8_isAsked_53 (by decide) ?_
    obtain ⟨f1, f2⟩ := fin2 hf
    clear hf
    subst f1
    subst f2
    exact V.zret (pc := 57) C rfl rfl dX8_isAsked_57
  replace hf := ite_t c4 hf
  refine V.iconst (pc := 11) C dX8_isAsked_11 (v := (1 : Int32)) (by decide) ?_
  obtain ⟨f1, f2⟩ := fin2 hf
  clear hf
  subst f1
  subst f2
  exact V.zret (pc := 12) C rfl rfl dX8_isAsked_12
theorem dX8_aim_0 : decode cX8_aim 0 = .ok (.aload_n 0, 1) := by decide +kernel
theorem dX8_aim_1 : decode cX8_aim 1 = .ok (.getfield 38, 3) := by decide +kernel
theorem dX8_aim_4 : decode cX8_aim 4 = .ok (.aload_n 1, 1) := by decide +kernel
theorem dX8_aim_5 : decode cX8_aim 5 = .ok (.iload_n 2, 1) := by decide +kernel
theorem dX8_aim_6 : decode cX8_aim 6 = .ok (.aload_n 0, 1) := by decide +kernel
theorem dX8_aim_7 : decode cX8_aim 7 = .ok (.getfield 38, 3) := by decide +kernel
theorem dX8_aim_10 : decode cX8_aim 10 = .ok (.getfield 105, 3) := by decide +kernel
theorem dX8_aim_13 : decode cX8_aim 13 = .ok (.invokevirtual 254, 3) := by decide +kernel
theorem dX8_aim_16 : decode cX8_aim 16 = .ok (.invokevirtual 314, 3) := by decide +kernel
theorem dX8_aim_19 : decode cX8_aim 19 = .ok (.istore_n 3, 1) := by decide +kernel
theorem dX8_aim_20 : decode cX8_aim 20 = .ok (.iload_n 3, 1) := by decide +kernel
theorem dX8_aim_21 : decode cX8_aim 21 = .ok (.ifCond .ne 7, 3) := by decide +kernel
theorem dX8_aim_24 : decode cX8_aim 24 = .ok (.iconst 1, 1) := by decide +kernel
theorem dX8_aim_25 : decode cX8_aim 25 = .ok (.goto 4, 3) := by decide +kernel
theorem dX8_aim_28 : decode cX8_aim 28 = .ok (.iconst 0, 1) := by decide +kernel
theorem dX8_aim_29 : decode cX8_aim 29 = .ok (.istore 4, 2) := by decide +kernel
theorem dX8_aim_31 : decode cX8_aim 31 = .ok (.aload_n 1, 1) := by decide +kernel
theorem dX8_aim_32 : decode cX8_aim 32 = .ok (.getfield 101, 3) := by decide +kernel
theorem dX8_aim_35 : decode cX8_aim 35 = .ok (.ifCond .eq 24, 3) := by decide +kernel
theorem dX8_aim_38 : decode cX8_aim 38 = .ok (.aload_n 0, 1) := by decide +kernel
theorem dX8_aim_39 : decode cX8_aim 39 = .ok (.getfield 38, 3) := by decide +kernel
theorem dX8_aim_42 : decode cX8_aim 42 = .ok (.aload_n 1, 1) := by decide +kernel
theorem dX8_aim_43 : decode cX8_aim 43 = .ok (.iload_n 2, 1) := by decide +kernel
theorem dX8_aim_44 : decode cX8_aim 44 = .ok (.aload_n 0, 1) := by decide +kernel
theorem dX8_aim_45 : decode cX8_aim 45 = .ok (.getfield 38, 3) := by decide +kernel
theorem dX8_aim_48 : decode cX8_aim 48 = .ok (.getfield 105, 3) := by decide +kernel
theorem dX8_aim_51 : decode cX8_aim 51 = .ok (.invokevirtual 251, 3) := by decide +kernel
theorem dX8_aim_54 : decode cX8_aim 54 = .ok (.invokevirtual 314, 3) := by decide +kernel
theorem dX8_aim_57 : decode cX8_aim 57 = .ok (.istore 4, 2) := by decide +kernel
theorem dX8_aim_59 : decode cX8_aim 59 = .ok (.aload_n 0, 1) := by decide +kernel
theorem dX8_aim_60 : decode cX8_aim 60 = .ok (.getfield 52, 3) := by decide +kernel
theorem dX8_aim_63 : decode cX8_aim 63 = .ok (.aload_n 0, 1) := by decide +kernel
theorem dX8_aim_64 : decode cX8_aim 64 = .ok (.getfield 38, 3) := by decide +kernel
theorem dX8_aim_67 : decode cX8_aim 67 = .ok (.getfield 105, 3) := by decide +kernel
theorem dX8_aim_70 : decode cX8_aim 70 = .ok (.iload 4, 2) := by decide +kernel
theorem dX8_aim_72 : decode cX8_aim 72 = .ok (.iload_n 3, 1) := by decide +kernel
theorem dX8_aim_73 : decode cX8_aim 73 = .ok (.invokevirtual 292, 3) := by decide +kernel
theorem dX8_aim_76 : decode cX8_aim 76 = .ok (.return_, 1) := by decide +kernel
def fX8_aim_59  (g : PH) (v0 : Nat) (v3 : Int32) (v4 : Int32) : Option (Unit × PH) :=
  (getR g v0 8 7).bind fun p1 =>
  ((getR g v0 8 5).bind fun p3 =>
  ((getI g p3 3 0).bind fun x5 =>
  ((fX7_place g p1 x5 v4 v3).bind fun q7 =>
  (some ((), q7.2)))))
set_option maxHeartbeats 4000000 in
set_option maxRecDepth 100000 in
theorem bX8_aim_59 {K : HK} {E : HE} {r : Unit} {g' : PH}  (C : VC K E 5 cX8_aim RX8 none)  {g : PH} {v0 : Nat} {v3 : Int32} {v4 : Int32} (hf : fX8_aim_59  g v0 v3 v4 = some (r, g')) : V K E (hRm 2 45 0 0) 5 (hZ K E none g' 0 0) 0 0 (kS K) g 59 [(0, .ref v0), (3, .int v3), (4, .int v4)] [] := by
  unfold fX8_aim_59 at hf
  refine V.aload_n (pc := 59) C dX8_aim_59 0 rfl ?_
  replace hf := ob_some hf
  obtain ⟨p1, h2, hf⟩ := hf
  refine V.getR (pc := 60) C kX8 (k := 7) (by decide) wd_195 h2 dX8_aim_60 ?_
  refine V.aload_n (pc := 63) C dX8_aim_63 0 rfl ?_
  replace hf := ob_some hf
  obtain ⟨p3, h4, hf⟩ := hf
  refine V.getR (pc := 64) C kX8 (k := 5) (by decide) wd_193 h4 dX8_aim_64 ?_
  replace hf := ob_some hf
  obtain ⟨x5, h6, hf⟩ := hf
  refine V.getI (pc := 67) C kX3 (k := 0) (by decide) wd_60 h6 dX8_aim_67 ?_
  refine V.iload (pc := 70) C dX8_aim_70 2 rfl ?_
  refine V.iload_n (pc := 72) C dX8_aim_72 1 rfl ?_
  replace hf := ob_some hf
  obtain ⟨q7, h8, hf⟩ := hf
  refine V.callV0v (pc := 73) C hyX7_place wd_578 (mX7_place (r := q7.1) (g' := q7.2) K.2.1 E (kS K) h8) rfl rfl rfl (oX7_place h8) ⟨Nat.le_of_ble_eq_true rfl, Nat.le_of_ble_eq_true rfl⟩ (Nat.le_of_ble_eq_true rfl) dX8_aim_73 ⟨Nat.zero_le _, Nat.zero_le _⟩ rfl ?_
  obtain ⟨f1, f2⟩ := fin2 hf
  clear hf
  subst f1
  subst f2
  exact V.vret (pc := 76) C rfl dX8_aim_76
def fX8_aim_29  (g : PH) (v0 : Nat) (v1 : Nat) (v2 : Int32) (v3 : Int32) (s0 : Int32) : Option (Unit × PH) :=
  (getI g v1 1 1).bind fun x1 =>
  (if x1 = 0 then (fX8_aim_59 g v0 v3 s0) else
  ((getR g v0 8 5).bind fun p4 =>
  ((getR g v0 8 5).bind fun p6 =>
  ((getI g p6 3 0).bind fun x8 =>
  ((fX1_aggressorOf g v1 v2 x8).bind fun q10 =>
  ((fX3_addressOf q10.2 p4 q10.1).bind fun q12 =>
  (fX8_aim_59 q12.2 v0 v3 q12.1)))))))
set_option maxHeartbeats 4000000 in
set_option maxRecDepth 100000 in
theorem bX8_aim_29 {K : HK} {E : HE} {r : Unit} {g' : PH}  (C : VC K E 5 cX8_aim RX8 none)  {g : PH} {v0 : Nat} {v1 : Nat} {v2 : Int32} {v3 : Int32} {s0 : Int32} (hf : fX8_aim_29  g v0 v1 v2 v3 s0 = some (r, g')) : V K E (hRm 2 45 0 0) 5 (hZ K E none g' 0 0) 0 0 (kS K) g 29 [(0, .ref v0), (1, .ref v1), (2, .int v2), (3, .int v3)] [.int s0] := by
  unfold fX8_aim_29 at hf
  refine V.istore (pc := 29) (L' := [(4, .int s0), (0, .ref v0), (1, .ref v1), (2, .int v2), (3, .int v3)]) C dX8_aim_29 (by decide) rfl ?_
  refine V.aload_n (pc := 31) C dX8_aim_31 2 rfl ?_
  replace hf := ob_some hf
  obtain ⟨x1, h2, hf⟩ := hf
  refine V.getI (pc := 32) C kX1 (k := 1) (by decide) wd_249 h2 dX8_aim_32 ?_
  refine V.if_eq (pc := 35) (t := 59) C dX8_aim_35 (by decide) (fun c3 => ?_) (fun c3 => ?_)
  · replace hf := ite_t c3 hf
    refine V.sub (L' := [(0, .ref v0), (3, .int v3), (4, .int s0)]) [1, 4, 0] rfl ?_
    exact bX8_aim_59 C  hf
  replace hf := ite_f c3 hf
  refine V.aload_n (pc := 38) C dX8_aim_38 1 rfl ?_
  replace hf := ob_some hf
  obtain ⟨p4, h5, hf⟩ := hf
  refine V.getR (pc := 39) C kX8 (k := 5) (by decide) wd_193 h5 dX8_aim_39 ?_
  refine V.aload_n (pc := 42) C dX8_aim_42 2 rfl ?_
  refine V.iload_n (pc := 43) C dX8_aim_43 3 rfl ?_
  refine V.aload_n (pc := 44) C dX8_aim_44 1 rfl ?_
  replace hf := ob_some hf
  obtain ⟨p6, h7, hf⟩ := hf
  refine V.getR (pc := 45) C kX8 (k := 5) (by decide) wd_193 h7 dX8_aim_45 ?_
  replace hf := ob_some hf
  obtain ⟨x8, h9, hf⟩ := hf
  refine V.getI (pc := 48) C kX3 (k := 0) (by decide) wd_60 h9 dX8_aim_48 ?_
  replace hf := ob_some hf
  obtain ⟨q10, h11, hf⟩ := hf
  refine V.callV0i (pc := 51) C hyX1_aggressorOf wd_630 (mX1_aggressorOf (r := q10.1) (g' := q10.2) K.2.1 E (kS K) h11) rfl rfl rfl (oX1_aggressorOf h11) ⟨Nat.le_of_ble_eq_true rfl, Nat.le_of_ble_eq_true rfl⟩ (Nat.le_of_ble_eq_true rfl) dX8_aim_51 ⟨Nat.zero_le _, Nat.zero_le _⟩ rfl ?_
  replace hf := ob_some hf
  obtain ⟨q12, h13, hf⟩ := hf
  refine V.callV0i (pc := 54) C hyX3_addressOf wd_647 (mX3_addressOf (r := q12.1) (g' := q12.2) K.2.1 E (kS K) h13) rfl rfl rfl (oX3_addressOf h13) ⟨Nat.le_of_ble_eq_true rfl, Nat.le_of_ble_eq_true rfl⟩ (Nat.le_of_ble_eq_true rfl) dX8_aim_54 ⟨Nat.zero_le _, Nat.zero_le _⟩ rfl ?_
  refine V.istore (pc := 57) (L' := [(4, .int q12.1), (0, .ref v0), (1, .ref v1), (2, .int v2), (3, .int v3)]) C dX8_aim_57 (by decide) rfl ?_
  refine V.sub (L' := [(0, .ref v0), (3, .int v3), (4, .int q12.1)]) [1, 4, 0] rfl ?_
  exact bX8_aim_59 C  hf
def fX8_aim (g : PH) (a0 : Nat) (a1 : Nat) (a2 : Int32) : Option (Unit × PH) :=
  okb (isO g a0 8) ((getR g a0 8 5).bind fun p1 =>
  ((getR g a0 8 5).bind fun p3 =>
  ((getI g p3 3 0).bind fun x5 =>
  ((fX1_victimOf g a1 a2 x5).bind fun q7 =>
  ((fX3_addressOf q7.2 p1 q7.1).bind fun q9 =>
  (if q9.1 = 0 then (fX8_aim_29 q9.2 a0 a1 a2 q9.1 (1 : Int32)) else
  (fX8_aim_29 q9.2 a0 a1 a2 q9.1 (0 : Int32))))))))
theorem oX8_aim {g : PH} {a0 : Nat} {a1 : Nat} {a2 : Int32} {q : (Unit × PH)} (h : fX8_aim g a0 a1 a2 = some q) : isO g a0 8 = true := by unfold fX8_aim at h; exact (okb_some h).1
theorem hyX8_aim : hMet yX8_aim RX8 cX8_aim 5 none 2 := ⟨wd_646, wd_645, ws_24, wd_1, rfl, by decide +kernel, by decide +kernel, by decide +kernel⟩
set_option maxHeartbeats 4000000 in
set_option maxRecDepth 100000 in
theorem mX8_aim (l : Launch) (E : HE) (sz : Nat) {g g' : PH} {a0 : Nat} {a1 : Nat} {a2 : Int32} {r : Unit} (hf : fX8_aim g a0 a1 a2 = some (r, g')) : hM l E yX8_aim cX8_aim 5 none 2 45 0 0 sz g [.ref a0, .ref a1, .int a2] none g' := by
  refine hM.of (by decide) (Nat.le_of_ble_eq_true rfl) (fun K hl C hin hsz => ?_)
  subst hl
  subst hsz
  have C : VC K E 5 cX8_aim RX8 none := C
  unfold fX8_aim at hf
  replace hf := okb_some hf
  obtain ⟨ho, hf⟩ := hf
  refine V.start (L' := [(0, .ref a0), (1, .ref a1), (2, .int a2)]) rfl ?_
  refine V.aload_n (pc := 0) C dX8_aim_0 0 rfl ?_
  replace hf := ob_some hf
  obtain ⟨p1, h2, hf⟩ := hf
  refine V.getR (pc := 1) C kX8 (k := 5) (by decide) wd_193 h2 dX8_aim_1 ?_
  refine V.aload_n (pc := 4) C dX8_aim_4 1 rfl ?_
  refine V.iload_n (pc := 5) C dX8_aim_5 2 rfl ?_
  refine V.aload_n (pc := 6) C dX8_aim_6 0 rfl ?_
  replace hf := ob_some hf
  obtain ⟨p3, h4, hf⟩ := hf
  refine V.getR (pc := 7) C kX8 (k := 5) (by decide) wd_193 h4 dX8_aim_7 ?_
  replace hf := ob_some hf
  obtain ⟨x5, h6, hf⟩ := hf
  refine V.getI (pc := 10) C kX3 (k := 0) (by decide) wd_60 h6 dX8_aim_10 ?_
  replace hf := ob_some hf
  obtain ⟨q7, h8, hf⟩ := hf
  refine V.callV0i (pc := 13) C hyX1_victimOf wd_635 (mX1_victimOf (r := q7.1) (g' := q7.2) K.2.1 E (kS K) h8) rfl rfl rfl (oX1_victimOf h8) ⟨Nat.le_of_ble_eq_true rfl, Nat.le_of_ble_eq_true rfl⟩ (Nat.le_of_ble_eq_true rfl) dX8_aim_13 ⟨Nat.zero_le _, Nat.zero_le _⟩ rfl ?_
  replace hf := ob_some hf
  obtain ⟨q9, h10, hf⟩ := hf
  refine V.callV0i (pc := 16) C hyX3_addressOf wd_647 (mX3_addressOf (r := q9.1) (g' := q9.2) K.2.1 E (kS K) h10) rfl rfl rfl (oX3_addressOf h10) ⟨Nat.le_of_ble_eq_true rfl, Nat.le_of_ble_eq_true rfl⟩ (Nat.le_of_ble_eq_true rfl) dX8_aim_16 ⟨Nat.zero_le _, Nat.zero_le _⟩ rfl ?_
  refine V.istore_n (pc := 19) (L' := [(3, .int q9.1), (0, .ref a0), (1, .ref a1), (2, .int a2)]) C dX8_aim_19 (by decide) rfl ?_
  refine V.iload_n (pc := 20) C dX8_aim_20 0 rfl ?_
  refine V.if_ne (pc := 21) (t := 28) C dX8_aim_21 (by decide) (fun c11 => ?_) (fun c11 => ?_)
  · replace hf := ite_f c11 hf
    refine V.iconst (pc := 28) C dX8_aim_28 (v := (0 : Int32)) (by decide) ?_
    refine V.sub (L' := [(0, .ref a0), (1, .ref a1), (2, .int a2), (3, .int q9.1)]) [1, 2, 3, 0] rfl ?_
    exact bX8_aim_29 C  hf
  replace hf := ite_t c11 hf
  refine V.iconst (pc := 24) C dX8_aim_24 (v := (1 : Int32)) (by decide) ?_
  refine V.goto (pc := 25) (t := 29) C dX8_aim_25 (by decide) ?_
  refine V.sub (L' := [(0, .ref a0), (1, .ref a1), (2, .int a2), (3, .int q9.1)]) [1, 2, 3, 0] rfl ?_
  exact bX8_aim_29 C  hf
theorem dX8_isCaught_0 : decode cX8_isCaught 0 = .ok (.aload_n 0, 1) := by decide +kernel
theorem dX8_isCaught_1 : decode cX8_isCaught 1 = .ok (.aload_n 1, 1) := by decide +kernel
theorem dX8_isCaught_2 : decode cX8_isCaught 2 = .ok (.iload_n 2, 1) := by decide +kernel
theorem dX8_isCaught_3 : decode cX8_isCaught 3 = .ok (.invokevirtual 264, 3) := by decide +kernel
theorem dX8_isCaught_6 : decode cX8_isCaught 6 = .ok (.iload_n 3, 1) := by decide +kernel
theorem dX8_isCaught_7 : decode cX8_isCaught 7 = .ok (.aload_n 0, 1) := by decide +kernel
theorem dX8_isCaught_8 : decode cX8_isCaught 8 = .ok (.getfield 52, 3) := by decide +kernel
theorem dX8_isCaught_11 : decode cX8_isCaught 11 = .ok (.getfield 308, 3) := by decide +kernel
theorem dX8_isCaught_14 : decode cX8_isCaught 14 = .ok (.aload_n 0, 1) := by decide +kernel
theorem dX8_isCaught_15 : decode cX8_isCaught 15 = .ok (.getfield 52, 3) := by decide +kernel
theorem dX8_isCaught_18 : decode cX8_isCaught 18 = .ok (.getfield 311, 3) := by decide +kernel
theorem dX8_isCaught_21 : decode cX8_isCaught 21 = .ok (.if_icmp .ge 7, 3) := by decide +kernel
theorem dX8_isCaught_24 : decode cX8_isCaught 24 = .ok (.iconst 1, 1) := by decide +kernel
theorem dX8_isCaught_25 : decode cX8_isCaught 25 = .ok (.goto 4, 3) := by decide +kernel
theorem dX8_isCaught_28 : decode cX8_isCaught 28 = .ok (.iconst 2, 1) := by decide +kernel
theorem dX8_isCaught_29 : decode cX8_isCaught 29 = .ok (.iand, 1) := by decide +kernel
theorem dX8_isCaught_30 : decode cX8_isCaught 30 = .ok (.ifCond .eq 7, 3) := by decide +kernel
theorem dX8_isCaught_33 : decode cX8_isCaught 33 = .ok (.iconst 1, 1) := by decide +kernel
theorem dX8_isCaught_34 : decode cX8_isCaught 34 = .ok (.goto 4, 3) := by decide +kernel
theorem dX8_isCaught_37 : decode cX8_isCaught 37 = .ok (.iconst 0, 1) := by decide +kernel
theorem dX8_isCaught_38 : decode cX8_isCaught 38 = .ok (.ireturn, 1) := by decide +kernel
def fX8_isCaught_29  (g : PH) (s0 : Int32) (s1 : Int32) : Option (Int32 × PH) :=
  if (s1 &&& s0) = 0 then (some ((0 : Int32), g)) else
  (some ((1 : Int32), g))
set_option maxHeartbeats 4000000 in
set_option maxRecDepth 100000 in
theorem bX8_isCaught_29 {K : HK} {E : HE} {r : Int32} {g' : PH}  (C : VC K E 4 cX8_isCaught RX8 (some .boolean))  {g : PH} {s0 : Int32} {s1 : Int32} (hf : fX8_isCaught_29  g s0 s1 = some (r, g')) : V K E (hRm 3 69 0 0) 4 (hZ K E (some (.int r)) g' 0 0) 0 0 (kS K) g 29 [] [.int s0, .int s1] := by
  unfold fX8_isCaught_29 at hf
  refine V.iand (pc := 29) C dX8_isCaught_29 ?_
  refine V.if_eq (pc := 30) (t := 37) C dX8_isCaught_30 (by decide) (fun c1 => ?_) (fun c1 => ?_)
  · replace hf := ite_t c1 hf
    refine V.iconst (pc := 37) C dX8_isCaught_37 (v := (0 : Int32)) (by decide) ?_
    obtain ⟨f1, f2⟩ := fin2 hf
    clear hf
    subst f1
    subst f2
    exact V.zret (pc := 38) C rfl rfl dX8_isCaught_38
  replace hf := ite_f c1 hf
  refine V.iconst (pc := 33) C dX8_isCaught_33 (v := (1 : Int32)) (by decide) ?_
  refine V.goto (pc := 34) (t := 38) C dX8_isCaught_34 (by decide) ?_
  obtain ⟨f1, f2⟩ := fin2 hf
  clear hf
  subst f1
  subst f2
  exact V.zret (pc := 38) C rfl rfl dX8_isCaught_38
def fX8_isCaught (g : PH) (a0 : Nat) (a1 : Nat) (a2 : Int32) (a3 : Int32) : Option (Int32 × PH) :=
  okb (isO g a0 8) ((fX8_aim g a0 a1 a2).bind fun q1 =>
  ((getR q1.2 a0 8 7).bind fun p3 =>
  ((getI q1.2 p3 7 0).bind fun x5 =>
  ((getR q1.2 a0 8 7).bind fun p7 =>
  ((getI q1.2 p7 7 1).bind fun x9 =>
  (if x9 ≤ x5 then (fX8_isCaught_29 q1.2 (2 : Int32) a3) else
  (fX8_isCaught_29 q1.2 (1 : Int32) a3)))))))
theorem oX8_isCaught {g : PH} {a0 : Nat} {a1 : Nat} {a2 : Int32} {a3 : Int32} {q : (Int32 × PH)} (h : fX8_isCaught g a0 a1 a2 a3 = some q) : isO g a0 8 = true := by unfold fX8_isCaught at h; exact (okb_some h).1
theorem hyX8_isCaught : hMet yX8_isCaught RX8 cX8_isCaught 4 (some .boolean) 3 := ⟨wd_642, wd_641, ws_23, wd_1, rfl, by decide +kernel, by decide +kernel, by decide +kernel⟩
set_option maxHeartbeats 4000000 in
set_option maxRecDepth 100000 in
theorem mX8_isCaught (l : Launch) (E : HE) (sz : Nat) {g g' : PH} {a0 : Nat} {a1 : Nat} {a2 : Int32} {a3 : Int32} {r : Int32} (hf : fX8_isCaught g a0 a1 a2 a3 = some (r, g')) : hM l E yX8_isCaught cX8_isCaught 4 (some .boolean) 3 69 0 0 sz g [.ref a0, .ref a1, .int a2, .int a3] (some (.int r)) g' := by
  refine hM.of (by decide) (Nat.le_of_ble_eq_true rfl) (fun K hl C hin hsz => ?_)
  subst hl
  subst hsz
  have C : VC K E 4 cX8_isCaught RX8 (some .boolean) := C
  unfold fX8_isCaught at hf
  replace hf := okb_some hf
  obtain ⟨ho, hf⟩ := hf
  refine V.start (L' := [(0, .ref a0), (1, .ref a1), (2, .int a2), (3, .int a3)]) rfl ?_
  refine V.aload_n (pc := 0) C dX8_isCaught_0 0 rfl ?_
  refine V.aload_n (pc := 1) C dX8_isCaught_1 1 rfl ?_
  refine V.iload_n (pc := 2) C dX8_isCaught_2 2 rfl ?_
  replace hf := ob_some hf
  obtain ⟨q1, h2, hf⟩ := hf
  refine V.callV0v (pc := 3) C hyX8_aim wd_643 (mX8_aim (r := q1.1) (g' := q1.2) K.2.1 E (kS K) h2) rfl rfl rfl (oX8_aim h2) ⟨Nat.le_of_ble_eq_true rfl, Nat.le_of_ble_eq_true rfl⟩ (Nat.le_of_ble_eq_true rfl) dX8_isCaught_3 ⟨Nat.zero_le _, Nat.zero_le _⟩ rfl ?_
  refine V.iload_n (pc := 6) C dX8_isCaught_6 3 rfl ?_
  refine V.aload_n (pc := 7) C dX8_isCaught_7 0 rfl ?_
  replace hf := ob_some hf
  obtain ⟨p3, h4, hf⟩ := hf
  refine V.getR (pc := 8) C kX8 (k := 7) (by decide) wd_195 h4 dX8_isCaught_8 ?_
  replace hf := ob_some hf
  obtain ⟨x5, h6, hf⟩ := hf
  refine V.getI (pc := 11) C kX7 (k := 0) (by decide) wd_133 h6 dX8_isCaught_11 ?_
  refine V.aload_n (pc := 14) C dX8_isCaught_14 0 rfl ?_
  replace hf := ob_some hf
  obtain ⟨p7, h8, hf⟩ := hf
  refine V.getR (pc := 15) C kX8 (k := 7) (by decide) wd_195 h8 dX8_isCaught_15 ?_
  replace hf := ob_some hf
  obtain ⟨x9, h10, hf⟩ := hf
  refine V.getI (pc := 18) C kX7 (k := 1) (by decide) wd_135 h10 dX8_isCaught_18 ?_
  refine V.icmp_ge (pc := 21) (t := 28) C dX8_isCaught_21 (by decide) (fun c11 => ?_) (fun c11 => ?_)
  · replace hf := ite_t c11 hf
    refine V.iconst (pc := 28) C dX8_isCaught_28 (v := (2 : Int32)) (by decide) ?_
    refine V.sub (L' := []) [] rfl ?_
    exact bX8_isCaught_29 C  hf
  replace hf := ite_f c11 hf
  refine V.iconst (pc := 24) C dX8_isCaught_24 (v := (1 : Int32)) (by decide) ?_
  refine V.goto (pc := 25) (t := 29) C dX8_isCaught_25 (by decide) ?_
  refine V.sub (L' := []) [] rfl ?_
  exact bX8_isCaught_29 C  hf
theorem dX8_caught_0 : decode cX8_caught 0 = .ok (.aload_n 0, 1) := by decide +kernel
theorem dX8_caught_1 : decode cX8_caught 1 = .ok (.iload_n 2, 1) := by decide +kernel
theorem dX8_caught_2 : decode cX8_caught 2 = .ok (.invokevirtual 94, 3) := by decide +kernel
theorem dX8_caught_5 : decode cX8_caught 5 = .ok (.astore 4, 2) := by decide +kernel
theorem dX8_caught_7 : decode cX8_caught 7 = .ok (.aload 4, 2) := by decide +kernel
theorem dX8_caught_9 : decode cX8_caught 9 = .ok (.ifnull 11, 3) := by decide +kernel
theorem dX8_caught_12 : decode cX8_caught 12 = .ok (.aload_n 0, 1) := by decide +kernel
theorem dX8_caught_13 : decode cX8_caught 13 = .ok (.iload_n 1, 1) := by decide +kernel
theorem dX8_caught_14 : decode cX8_caught 14 = .ok (.invokevirtual 112, 3) := by decide +kernel
theorem dX8_caught_17 : decode cX8_caught 17 = .ok (.ifnonnull 5, 3) := by decide +kernel
theorem dX8_caught_20 : decode cX8_caught 20 = .ok (.iconst (-1), 1) := by decide +kernel
theorem dX8_caught_21 : decode cX8_caught 21 = .ok (.ireturn, 1) := by decide +kernel
theorem dX8_caught_22 : decode cX8_caught 22 = .ok (.aload_n 0, 1) := by decide +kernel
theorem dX8_caught_23 : decode cX8_caught 23 = .ok (.iload_n 1, 1) := by decide +kernel
theorem dX8_caught_24 : decode cX8_caught 24 = .ok (.iload_n 2, 1) := by decide +kernel
theorem dX8_caught_25 : decode cX8_caught 25 = .ok (.invokevirtual 146, 3) := by decide +kernel
theorem dX8_caught_28 : decode cX8_caught 28 = .ok (.istore 5, 2) := by decide +kernel
theorem dX8_caught_30 : decode cX8_caught 30 = .ok (.iconst 0, 1) := by decide +kernel
theorem dX8_caught_31 : decode cX8_caught 31 = .ok (.istore 6, 2) := by decide +kernel
theorem dX8_caught_33 : decode cX8_caught 33 = .ok (.iconst 0, 1) := by decide +kernel
theorem dX8_caught_34 : decode cX8_caught 34 = .ok (.istore 7, 2) := by decide +kernel
theorem dX8_caught_36 : decode cX8_caught 36 = .ok (.iload 7, 2) := by decide +kernel
theorem dX8_caught_38 : decode cX8_caught 38 = .ok (.aload 4, 2) := by decide +kernel
theorem dX8_caught_40 : decode cX8_caught 40 = .ok (.aload_n 0, 1) := by decide +kernel
theorem dX8_caught_41 : decode cX8_caught 41 = .ok (.getfield 38, 3) := by decide +kernel
theorem dX8_caught_44 : decode cX8_caught 44 = .ok (.getfield 105, 3) := by decide +kernel
theorem dX8_caught_47 : decode cX8_caught 47 = .ok (.invokevirtual 108, 3) := by decide +kernel
theorem dX8_caught_50 : decode cX8_caught 50 = .ok (.if_icmp .ge 37, 3) := by decide +kernel
theorem dX8_caught_53 : decode cX8_caught 53 = .ok (.aload_n 0, 1) := by decide +kernel
theorem dX8_caught_54 : decode cX8_caught 54 = .ok (.aload 4, 2) := by decide +kernel
theorem dX8_caught_56 : decode cX8_caught 56 = .ok (.iload 7, 2) := by decide +kernel
theorem dX8_caught_58 : decode cX8_caught 58 = .ok (.iload_n 3, 1) := by decide +kernel
theorem dX8_caught_59 : decode cX8_caught 59 = .ok (.invokevirtual 149, 3) := by decide +kernel
theorem dX8_caught_62 : decode cX8_caught 62 = .ok (.ifCond .eq 19, 3) := by decide +kernel
theorem dX8_caught_65 : decode cX8_caught 65 = .ok (.aload_n 0, 1) := by decide +kernel
theorem dX8_caught_66 : decode cX8_caught 66 = .ok (.aload 4, 2) := by decide +kernel
theorem dX8_caught_68 : decode cX8_caught 68 = .ok (.iload 7, 2) := by decide +kernel
theorem dX8_caught_70 : decode cX8_caught 70 = .ok (.iload 5, 2) := by decide +kernel
theorem dX8_caught_72 : decode cX8_caught 72 = .ok (.invokevirtual 153, 3) := by decide +kernel
theorem dX8_caught_75 : decode cX8_caught 75 = .ok (.ifCond .eq 6, 3) := by decide +kernel
theorem dX8_caught_78 : decode cX8_caught 78 = .ok (.iinc 6 1, 3) := by decide +kernel
theorem dX8_caught_81 : decode cX8_caught 81 = .ok (.iinc 7 1, 3) := by decide +kernel
theorem dX8_caught_84 : decode cX8_caught 84 = .ok (.goto (-48), 3) := by decide +kernel
theorem dX8_caught_87 : decode cX8_caught 87 = .ok (.iload 6, 2) := by decide +kernel
theorem dX8_caught_89 : decode cX8_caught 89 = .ok (.ireturn, 1) := by decide +kernel
def fX8_caught_81 (k36 : PH → Nat → Int32 → Nat → Int32 → Int32 → Int32 → Option (Int32 × PH)) (g : PH) (v0 : Nat) (v3 : Int32) (v4 : Nat) (v5 : Int32) (v6 : Int32) (v7 : Int32) : Option (Int32 × PH) :=
  k36 g v0 v3 v4 v5 v6 (v7 + (1 : Int32))
set_option maxHeartbeats 4000000 in
set_option maxRecDepth 100000 in
theorem bX8_caught_81 {K : HK} {E : HE} {r : Int32} {g' : PH} {k36 : PH → Nat → Int32 → Nat → Int32 → Int32 → Int32 → Option (Int32 × PH)} (C : VC K E 8 cX8_caught RX8 (some .int)) (hk36 : ∀ (g : PH) (v0 : Nat) (v3 : Int32) (v4 : Nat) (v5 : Int32) (v6 : Int32) (v7 : Int32), k36 g v0 v3 v4 v5 v6 v7 = some (r, g') → V K E (hRm 6 156 0 0) 8 (hZ K E (some (.int r)) g' 0 0) 0 0 (kS K) g 36 [(0, .ref v0), (3, .int v3), (4, .ref v4), (5, .int v5), (6, .int v6), (7, .int v7)] []) {g : PH} {v0 : Nat} {v3 : Int32} {v4 : Nat} {v5 : Int32} {v6 : Int32} {v7 : Int32} (hf : fX8_caught_81 k36 g v0 v3 v4 v5 v6 v7 = some (r, g')) : V K E (hRm 6 156 0 0) 8 (hZ K E (some (.int r)) g' 0 0) 0 0 (kS K) g 81 [(0, .ref v0), (3, .int v3), (4, .ref v4), (5, .int v5), (6, .int v6), (7, .int v7)] [] := by
  unfold fX8_caught_81 at hf
  refine V.iinc (pc := 81) (v := (v7 + (1 : Int32))) (L' := [(7, .int (v7 + (1 : Int32))), (0, .ref v0), (3, .int v3), (4, .ref v4), (5, .int v5), (6, .int v6)]) C dX8_caught_81 5 rfl rfl (by decide) rfl ?_
  refine V.goto (pc := 84) (t := 36) C dX8_caught_84 (by decide) ?_
  refine V.sub (L' := [(0, .ref v0), (3, .int v3), (4, .ref v4), (5, .int v5), (6, .int v6), (7, .int (v7 + (1 : Int32)))]) [1, 2, 3, 4, 5, 0] rfl ?_
  exact hk36 _ _ _ _ _ _ _ hf
def fX8_caught_36  : Nat → PH → Nat → Int32 → Nat → Int32 → Int32 → Int32 → Option (Int32 × PH)
  | 0, _, _, _, _, _, _, _ => none
  | n + 1, g, v0, v3, v4, v5, v6, v7 =>
  (getR g v0 8 5).bind fun p1 =>
  ((getI g p1 3 0).bind fun x3 =>
  ((fX1_placements g v4 x3).bind fun q5 =>
  (if q5.1 ≤ v7 then (some (v6, q5.2)) else
  ((fX8_isAsked q5.2 v0 v4 v7 v3).bind fun q8 =>
  (if q8.1 = 0 then (fX8_caught_81 (fX8_caught_36 n) q8.2 v0 v3 v4 v5 v6 v7) else
  ((fX8_isCaught q8.2 v0 v4 v7 v5).bind fun q11 =>
  (if q11.1 = 0 then (fX8_caught_81 (fX8_caught_36 n) q11.2 v0 v3 v4 v5 v6 v7) else
  (fX8_caught_81 (fX8_caught_36 n) q11.2 v0 v3 v4 v5 (v6 + (1 : Int32)) v7))))))))
set_option maxHeartbeats 4000000 in
set_option maxRecDepth 100000 in
theorem bX8_caught_36 {K : HK} {E : HE} {r : Int32} {g' : PH}  (C : VC K E 8 cX8_caught RX8 (some .int))  : ∀ (n : Nat) (g : PH) (v0 : Nat) (v3 : Int32) (v4 : Nat) (v5 : Int32) (v6 : Int32) (v7 : Int32), fX8_caught_36  n g v0 v3 v4 v5 v6 v7 = some (r, g') → V K E (hRm 6 156 0 0) 8 (hZ K E (some (.int r)) g' 0 0) 0 0 (kS K) g 36 [(0, .ref v0), (3, .int v3), (4, .ref v4), (5, .int v5), (6, .int v6), (7, .int v7)] [] := by
  intro n
  induction n with
  | zero =>
    intro g v0 v3 v4 v5 v6 v7 hf
    rw [fX8_caught_36] at hf
    cases hf
  | succ n ih =>
    intro g v0 v3 v4 v5 v6 v7 hf
    rw [fX8_caught_36] at hf
    refine V.iload (pc := 36) C dX8_caught_36 5 rfl ?_
    refine V.aload (pc := 38) C dX8_caught_38 2 rfl ?_
    refine V.aload_n (pc := 40) C dX8_caught_40 0 rfl ?_
    replace hf := ob_some hf
    obtain ⟨p1, h2, hf⟩ := hf
    refine V.getR (pc := 41) C kX8 (k := 5) (by decide) wd_193 h2 dX8_caught_41 ?_
    replace hf := ob_some hf
    obtain ⟨x3, h4, hf⟩ := hf
    refine V.getI (pc := 44) C kX3 (k := 0) (by decide) wd_60 h4 dX8_caught_44 ?_
    replace hf := ob_some hf
    obtain ⟨q5, h6, hf⟩ := hf
    refine V.callV0i (pc := 47) C hyX1_placements wd_541 (mX1_placements (r := q5.1) (g' := q5.2) K.2.1 E (kS K) h6) rfl rfl rfl (oX1_placements h6) ⟨Nat.le_of_ble_eq_true rfl, Nat.le_of_ble_eq_true rfl⟩ (Nat.le_of_ble_eq_true rfl) dX8_caught_47 ⟨Nat.zero_le _, Nat.zero_le _⟩ rfl ?_
    refine V.icmp_ge (pc := 50) (t := 87) C dX8_caught_50 (by decide) (fun c7 => ?_) (fun c7 => ?_)
    · replace hf := ite_t c7 hf
      refine V.iload (pc := 87) C dX8_caught_87 4 rfl ?_
      obtain ⟨f1, f2⟩ := fin2 hf
      clear hf
      subst f1
      subst f2
      exact V.iret (pc := 89) C rfl dX8_caught_89
    replace hf := ite_f c7 hf
    refine V.aload_n (pc := 53) C dX8_caught_53 0 rfl ?_
    refine V.aload (pc := 54) C dX8_caught_54 2 rfl ?_
    refine V.iload (pc := 56) C dX8_caught_56 5 rfl ?_
    refine V.iload_n (pc := 58) C dX8_caught_58 1 rfl ?_
    replace hf := ob_some hf
    obtain ⟨q8, h9, hf⟩ := hf
    refine V.callV0i (pc := 59) C hyX8_isAsked wd_626 (mX8_isAsked (r := q8.1) (g' := q8.2) K.2.1 E (kS K) h9) rfl rfl rfl (oX8_isAsked h9) ⟨Nat.le_of_ble_eq_true rfl, Nat.le_of_ble_eq_true rfl⟩ (Nat.le_of_ble_eq_true rfl) dX8_caught_59 ⟨Nat.zero_le _, Nat.zero_le _⟩ rfl ?_
    refine V.if_eq (pc := 62) (t := 81) C dX8_caught_62 (by decide) (fun c10 => ?_) (fun c10 => ?_)
    · replace hf := ite_t c10 hf
      refine V.sub (L' := [(0, .ref v0), (3, .int v3), (4, .ref v4), (5, .int v5), (6, .int v6), (7, .int v7)]) [0, 1, 2, 3, 4, 5] rfl ?_
      exact bX8_caught_81 C ih hf
    replace hf := ite_f c10 hf
    refine V.aload_n (pc := 65) C dX8_caught_65 0 rfl ?_
    refine V.aload (pc := 66) C dX8_caught_66 2 rfl ?_
    refine V.iload (pc := 68) C dX8_caught_68 5 rfl ?_
    refine V.iload (pc := 70) C dX8_caught_70 3 rfl ?_
    replace hf := ob_some hf
    obtain ⟨q11, h12, hf⟩ := hf
    refine V.callV0i (pc := 72) C hyX8_isCaught wd_639 (mX8_isCaught (r := q11.1) (g' := q11.2) K.2.1 E (kS K) h12) rfl rfl rfl (oX8_isCaught h12) ⟨Nat.le_of_ble_eq_true rfl, Nat.le_of_ble_eq_true rfl⟩ (Nat.le_of_ble_eq_true rfl) dX8_caught_72 ⟨Nat.zero_le _, Nat.zero_le _⟩ rfl ?_
    refine V.if_eq (pc := 75) (t := 81) C dX8_caught_75 (by decide) (fun c13 => ?_) (fun c13 => ?_)
    · replace hf := ite_t c13 hf
      refine V.sub (L' := [(0, .ref v0), (3, .int v3), (4, .ref v4), (5, .int v5), (6, .int v6), (7, .int v7)]) [0, 1, 2, 3, 4, 5] rfl ?_
      exact bX8_caught_81 C ih hf
    replace hf := ite_f c13 hf
    refine V.iinc (pc := 78) (v := (v6 + (1 : Int32))) (L' := [(6, .int (v6 + (1 : Int32))), (0, .ref v0), (3, .int v3), (4, .ref v4), (5, .int v5), (7, .int v7)]) C dX8_caught_78 4 rfl rfl (by decide) rfl ?_
    refine V.sub (L' := [(0, .ref v0), (3, .int v3), (4, .ref v4), (5, .int v5), (6, .int (v6 + (1 : Int32))), (7, .int v7)]) [1, 2, 3, 4, 0, 5] rfl ?_
    exact bX8_caught_81 C ih hf
def fX8_caught (g : PH) (a0 : Nat) (a1 : Int32) (a2 : Int32) (a3 : Int32) : Option (Int32 × PH) :=
  okb (isO g a0 8) ((fX8_kindAt g a0 a2).bind fun (z2, g3) =>
  (z2.elim (some ((-1 : Int32), g3)) (fun p5 =>
  (fX8_marchAt g3 a0 a1).bind fun (z7, g8) =>
  (z7.elim (some ((-1 : Int32), g8)) (fun p10 =>
  (fX8_bothOrders g8 a0 a1 a2).bind fun q11 =>
  (fX8_caught_36 FUEL q11.2 a0 a3 p5 q11.1 (0 : Int32) (0 : Int32)))))))
theorem oX8_caught {g : PH} {a0 : Nat} {a1 : Int32} {a2 : Int32} {a3 : Int32} {q : (Int32 × PH)} (h : fX8_caught g a0 a1 a2 a3 = some q) : isO g a0 8 = true := by unfold fX8_caught at h; exact (okb_some h).1
theorem hyX8_caught : hMet yX8_caught RX8 cX8_caught 8 (some .int) 3 := ⟨wd_573, wd_571, wd_572, wd_1, rfl, by decide +kernel, by decide +kernel, by decide +kernel⟩
set_option maxHeartbeats 4000000 in
set_option maxRecDepth 100000 in
theorem mX8_caught (l : Launch) (E : HE) (sz : Nat) {g g' : PH} {a0 : Nat} {a1 : Int32} {a2 : Int32} {a3 : Int32} {r : Int32} (hf : fX8_caught g a0 a1 a2 a3 = some (r, g')) : hM l E yX8_caught cX8_caught 8 (some .int) 6 156 0 0 sz g [.ref a0, .int a1, .int a2, .int a3] (some (.int r)) g' := by
  refine hM.of (by decide) (Nat.le_of_ble_eq_true rfl) (fun K hl C hin hsz => ?_)
  subst hl
  subst hsz
  have C : VC K E 8 cX8_caught RX8 (some .int) := C
  unfold fX8_caught at hf
  replace hf := okb_some hf
  obtain ⟨ho, hf⟩ := hf
  refine V.start (L' := [(0, .ref a0), (1, .int a1), (2, .int a2), (3, .int a3)]) rfl ?_
  refine V.aload_n (pc := 0) C dX8_caught_0 0 rfl ?_
  refine V.iload_n (pc := 1) C dX8_caught_1 2 rfl ?_
  replace hf := ob_some hf
  obtain ⟨⟨z2, g3⟩, h4, hf⟩ := hf
  dsimp only at hf
  refine V.callV0q (pc := 2) C hyX8_kindAt wd_537 (mX8_kindAt (r := z2) (g' := g3) K.2.1 E (kS K) h4) rfl rfl rfl (oX8_kindAt h4) ⟨Nat.le_of_ble_eq_true rfl, Nat.le_of_ble_eq_true rfl⟩ (Nat.le_of_ble_eq_true rfl) dX8_caught_2 ⟨Nat.zero_le _, Nat.zero_le _⟩ rfl ?_
  refine V.astoreQ (pc := 5) (L' := [(4, va_rf z2), (0, .ref a0), (1, .int a1), (2, .int a2), (3, .int a3)]) C (x := z2) dX8_caught_5 (by decide) rfl ?_
  refine V.aloadQ (pc := 7) C dX8_caught_7 0 rfl ?_
  rcases z2 with _ | p5
  · refine V.ifnullN (pc := 9) (t := 20) C dX8_caught_9 (by decide) ?_
    refine V.iconst (pc := 20) C dX8_caught_20 (v := (-1 : Int32)) (by decide) ?_
    obtain ⟨f1, f2⟩ := fin2 hf
    clear hf
    subst f1
    subst f2
    exact V.iret (pc := 21) C rfl dX8_caught_21
  refine V.ifnull (pc := 9) C dX8_caught_9 ?_
  refine V.aload_n (pc := 12) C dX8_caught_12 1 rfl ?_
  refine V.iload_n (pc := 13) C dX8_caught_13 2 rfl ?_
  replace hf := ob_some hf
  obtain ⟨⟨z7, g8⟩, h9, hf⟩ := hf
  dsimp only at hf
  refine V.callV0q (pc := 14) C hyX8_marchAt wd_549 (mX8_marchAt (r := z7) (g' := g8) K.2.1 E (kS K) h9) rfl rfl rfl (oX8_marchAt h9) ⟨Nat.le_of_ble_eq_true rfl, Nat.le_of_ble_eq_true rfl⟩ (Nat.le_of_ble_eq_true rfl) dX8_caught_14 ⟨Nat.zero_le _, Nat.zero_le _⟩ rfl ?_
  rcases z7 with _ | p10
  · refine V.ifnonnullN (pc := 17) C dX8_caught_17 ?_
    refine V.iconst (pc := 20) C dX8_caught_20 (v := (-1 : Int32)) (by decide) ?_
    obtain ⟨f1, f2⟩ := fin2 hf
    clear hf
    subst f1
    subst f2
    exact V.iret (pc := 21) C rfl dX8_caught_21
  refine V.ifnonnull (pc := 17) (t := 22) C dX8_caught_17 (by decide) ?_
  refine V.aload_n (pc := 22) C dX8_caught_22 1 rfl ?_
  refine V.iload_n (pc := 23) C dX8_caught_23 2 rfl ?_
  refine V.iload_n (pc := 24) C dX8_caught_24 3 rfl ?_
  replace hf := ob_some hf
  obtain ⟨q11, h12, hf⟩ := hf
  refine V.callV0i (pc := 25) C hyX8_bothOrders wd_574 (mX8_bothOrders (r := q11.1) (g' := q11.2) K.2.1 E (kS K) h12) rfl rfl rfl (oX8_bothOrders h12) ⟨Nat.le_of_ble_eq_true rfl, Nat.le_of_ble_eq_true rfl⟩ (Nat.le_of_ble_eq_true rfl) dX8_caught_25 ⟨Nat.zero_le _, Nat.zero_le _⟩ rfl ?_
  refine V.istore (pc := 28) (L' := [(5, .int q11.1), (4, .ref p5), (0, .ref a0), (1, .int a1), (2, .int a2), (3, .int a3)]) C dX8_caught_28 (by decide) rfl ?_
  refine V.iconst (pc := 30) C dX8_caught_30 (v := (0 : Int32)) (by decide) ?_
  refine V.istore (pc := 31) (L' := [(6, .int (0 : Int32)), (5, .int q11.1), (4, .ref p5), (0, .ref a0), (1, .int a1), (2, .int a2), (3, .int a3)]) C dX8_caught_31 (by decide) rfl ?_
  refine V.iconst (pc := 33) C dX8_caught_33 (v := (0 : Int32)) (by decide) ?_
  refine V.istore (pc := 34) (L' := [(7, .int (0 : Int32)), (6, .int (0 : Int32)), (5, .int q11.1), (4, .ref p5), (0, .ref a0), (1, .int a1), (2, .int a2), (3, .int a3)]) C dX8_caught_34 (by decide) rfl ?_
  refine V.sub (L' := [(0, .ref a0), (3, .int a3), (4, .ref p5), (5, .int q11.1), (6, .int (0 : Int32)), (7, .int (0 : Int32))]) [4, 7, 3, 2, 1, 0] rfl ?_
  exact bX8_caught_36 C  _ _ _ _ _ _ _ _ hf
theorem dX8_stateIn_0 : decode cX8_stateIn 0 = .ok (.iload_n 3, 1) := by decide +kernel
theorem dX8_stateIn_1 : decode cX8_stateIn 1 = .ok (.aload_n 1, 1) := by decide +kernel
theorem dX8_stateIn_2 : decode cX8_stateIn 2 = .ok (.iload_n 2, 1) := by decide +kernel
theorem dX8_stateIn_3 : decode cX8_stateIn 3 = .ok (.aload_n 0, 1) := by decide +kernel
theorem dX8_stateIn_4 : decode cX8_stateIn 4 = .ok (.getfield 38, 3) := by decide +kernel
theorem dX8_stateIn_7 : decode cX8_stateIn 7 = .ok (.getfield 105, 3) := by decide +kernel
theorem dX8_stateIn_10 : decode cX8_stateIn 10 = .ok (.invokevirtual 254, 3) := by decide +kernel
theorem dX8_stateIn_13 : decode cX8_stateIn 13 = .ok (.ishr, 1) := by decide +kernel
theorem dX8_stateIn_14 : decode cX8_stateIn 14 = .ok (.iconst 1, 1) := by decide +kernel
theorem dX8_stateIn_15 : decode cX8_stateIn 15 = .ok (.iand, 1) := by decide +kernel
theorem dX8_stateIn_16 : decode cX8_stateIn 16 = .ok (.istore 4, 2) := by decide +kernel
theorem dX8_stateIn_18 : decode cX8_stateIn 18 = .ok (.aload_n 1, 1) := by decide +kernel
theorem dX8_stateIn_19 : decode cX8_stateIn 19 = .ok (.getfield 101, 3) := by decide +kernel
theorem dX8_stateIn_22 : decode cX8_stateIn 22 = .ok (.ifCond .eq 26, 3) := by decide +kernel
theorem dX8_stateIn_25 : decode cX8_stateIn 25 = .ok (.iload 4, 2) := by decide +kernel
theorem dX8_stateIn_27 : decode cX8_stateIn 27 = .ok (.iload_n 3, 1) := by decide +kernel
theorem dX8_stateIn_28 : decode cX8_stateIn 28 = .ok (.aload_n 1, 1) := by decide +kernel
theorem dX8_stateIn_29 : decode cX8_stateIn 29 = .ok (.iload_n 2, 1) := by decide +kernel
theorem dX8_stateIn_30 : decode cX8_stateIn 30 = .ok (.aload_n 0, 1) := by decide +kernel
theorem dX8_stateIn_31 : decode cX8_stateIn 31 = .ok (.getfield 38, 3) := by decide +kernel
theorem dX8_stateIn_34 : decode cX8_stateIn 34 = .ok (.getfield 105, 3) := by decide +kernel
theorem dX8_stateIn_37 : decode cX8_stateIn 37 = .ok (.invokevirtual 251, 3) := by decide +kernel
theorem dX8_stateIn_40 : decode cX8_stateIn 40 = .ok (.ishr, 1) := by decide +kernel
theorem dX8_stateIn_41 : decode cX8_stateIn 41 = .ok (.iconst 1, 1) := by decide +kernel
theorem dX8_stateIn_42 : decode cX8_stateIn 42 = .ok (.iand, 1) := by decide +kernel
theorem dX8_stateIn_43 : decode cX8_stateIn 43 = .ok (.iconst 1, 1) := by decide +kernel
theorem dX8_stateIn_44 : decode cX8_stateIn 44 = .ok (.ishl, 1) := by decide +kernel
theorem dX8_stateIn_45 : decode cX8_stateIn 45 = .ok (.ior, 1) := by decide +kernel
theorem dX8_stateIn_46 : decode cX8_stateIn 46 = .ok (.istore 4, 2) := by decide +kernel
theorem dX8_stateIn_48 : decode cX8_stateIn 48 = .ok (.iload 4, 2) := by decide +kernel
theorem dX8_stateIn_50 : decode cX8_stateIn 50 = .ok (.ireturn, 1) := by decide +kernel
def fX8_stateIn (g : PH) (a0 : Nat) (a1 : Nat) (a2 : Int32) (a3 : Int32) : Option (Int32 × PH) :=
  okb (isO g a0 8) ((getR g a0 8 5).bind fun p1 =>
  ((getI g p1 3 0).bind fun x3 =>
  ((fX1_victimOf g a1 a2 x3).bind fun q5 =>
  ((getI q5.2 a1 1 1).bind fun x7 =>
  (if x7 = 0 then (some (((a3 >>> (q5.1 &&& 31)) &&& (1 : Int32)), q5.2)) else
  ((getR q5.2 a0 8 5).bind fun p10 =>
  ((getI q5.2 p10 3 0).bind fun x12 =>
  ((fX1_aggressorOf q5.2 a1 a2 x12).bind fun q14 =>
  (some ((((a3 >>> (q5.1 &&& 31)) &&& (1 : Int32)) ||| (((a3 >>> (q14.1 &&& 31)) &&& (1 : Int32)) <<< ((1 : Int32) &&& 31))), q14.2))))))))))
theorem oX8_stateIn {g : PH} {a0 : Nat} {a1 : Nat} {a2 : Int32} {a3 : Int32} {q : (Int32 × PH)} (h : fX8_stateIn g a0 a1 a2 a3 = some q) : isO g a0 8 = true := by unfold fX8_stateIn at h; exact (okb_some h).1
theorem hyX8_stateIn : hMet yX8_stateIn RX8 cX8_stateIn 5 (some .int) 3 := ⟨wd_662, wd_661, ws_26, wd_1, rfl, by decide +kernel, by decide +kernel, by decide +kernel⟩
set_option maxHeartbeats 4000000 in
set_option maxRecDepth 100000 in
theorem mX8_stateIn (l : Launch) (E : HE) (sz : Nat) {g g' : PH} {a0 : Nat} {a1 : Nat} {a2 : Int32} {a3 : Int32} {r : Int32} (hf : fX8_stateIn g a0 a1 a2 a3 = some (r, g')) : hM l E yX8_stateIn cX8_stateIn 5 (some .int) 2 45 0 0 sz g [.ref a0, .ref a1, .int a2, .int a3] (some (.int r)) g' := by
  refine hM.of (by decide) (Nat.le_of_ble_eq_true rfl) (fun K hl C hin hsz => ?_)
  subst hl
  subst hsz
  have C : VC K E 5 cX8_stateIn RX8 (some .int) := C
  unfold fX8_stateIn at hf
  replace hf := okb_some hf
  obtain ⟨ho, hf⟩ := hf
  refine V.start (L' := [(0, .ref a0), (1, .ref a1), (2, .int a2), (3, .int a3)]) rfl ?_
  refine V.iload_n (pc := 0) C dX8_stateIn_0 3 rfl ?_
  refine V.aload_n (pc := 1) C dX8_stateIn_1 1 rfl ?_
  refine V.iload_n (pc := 2) C dX8_stateIn_2 2 rfl ?_
  refine V.aload_n (pc := 3) C dX8_stateIn_3 0 rfl ?_
  replace hf := ob_some hf
  obtain ⟨p1, h2, hf⟩ := hf
  refine V.getR (pc := 4) C kX8 (k := 5) (by decide) wd_193 h2 dX8_stateIn_4 ?_
  replace hf := ob_some hf
  obtain ⟨x3, h4, hf⟩ := hf
  refine V.getI (pc := 7) C kX3 (k := 0) (by decide) wd_60 h4 dX8_stateIn_7 ?_
  replace hf := ob_some hf
  obtain ⟨q5, h6, hf⟩ := hf
  refine V.callV0i (pc := 10) C hyX1_victimOf wd_635 (mX1_victimOf (r := q5.1) (g' := q5.2) K.2.1 E (kS K) h6) rfl rfl rfl (oX1_victimOf h6) ⟨Nat.le_of_ble_eq_true rfl, Nat.le_of_ble_eq_true rfl⟩ (Nat.le_of_ble_eq_true rfl) dX8_stateIn_10 ⟨Nat.zero_le _, Nat.zero_le _⟩ rfl ?_
  refine V.ishr (pc := 13) C dX8_stateIn_13 ?_
  refine V.iconst (pc := 14) C dX8_stateIn_14 (v := (1 : Int32)) (by decide) ?_
  refine V.iand (pc := 15) C dX8_stateIn_15 ?_
  refine V.istore (pc := 16) (L' := [(4, .int ((a3 >>> (q5.1 &&& 31)) &&& (1 : Int32))), (0, .ref a0), (1, .ref a1), (2, .int a2), (3, .int a3)]) C dX8_stateIn_16 (by decide) rfl ?_
  refine V.aload_n (pc := 18) C dX8_stateIn_18 2 rfl ?_
  replace hf := ob_some hf
  obtain ⟨x7, h8, hf⟩ := hf
  refine V.getI (pc := 19) C kX1 (k := 1) (by decide) wd_249 h8 dX8_stateIn_19 ?_
  refine V.if_eq (pc := 22) (t := 48) C dX8_stateIn_22 (by decide) (fun c9 => ?_) (fun c9 => ?_)
  · replace hf := ite_t c9 hf
    refine V.iload (pc := 48) C dX8_stateIn_48 0 rfl ?_
    obtain ⟨f1, f2⟩ := fin2 hf
    clear hf
    subst f1
    subst f2
    exact V.iret (pc := 50) C rfl dX8_stateIn_50
  replace hf := ite_f c9 hf
  refine V.iload (pc := 25) C dX8_stateIn_25 0 rfl ?_
  refine V.iload_n (pc := 27) C dX8_stateIn_27 4 rfl ?_
  refine V.aload_n (pc := 28) C dX8_stateIn_28 2 rfl ?_
  refine V.iload_n (pc := 29) C dX8_stateIn_29 3 rfl ?_
  refine V.aload_n (pc := 30) C dX8_stateIn_30 1 rfl ?_
  replace hf := ob_some hf
  obtain ⟨p10, h11, hf⟩ := hf
  refine V.getR (pc := 31) C kX8 (k := 5) (by decide) wd_193 h11 dX8_stateIn_31 ?_
  replace hf := ob_some hf
  obtain ⟨x12, h13, hf⟩ := hf
  refine V.getI (pc := 34) C kX3 (k := 0) (by decide) wd_60 h13 dX8_stateIn_34 ?_
  replace hf := ob_some hf
  obtain ⟨q14, h15, hf⟩ := hf
  refine V.callV0i (pc := 37) C hyX1_aggressorOf wd_630 (mX1_aggressorOf (r := q14.1) (g' := q14.2) K.2.1 E (kS K) h15) rfl rfl rfl (oX1_aggressorOf h15) ⟨Nat.le_of_ble_eq_true rfl, Nat.le_of_ble_eq_true rfl⟩ (Nat.le_of_ble_eq_true rfl) dX8_stateIn_37 ⟨Nat.zero_le _, Nat.zero_le _⟩ rfl ?_
  refine V.ishr (pc := 40) C dX8_stateIn_40 ?_
  refine V.iconst (pc := 41) C dX8_stateIn_41 (v := (1 : Int32)) (by decide) ?_
  refine V.iand (pc := 42) C dX8_stateIn_42 ?_
  refine V.iconst (pc := 43) C dX8_stateIn_43 (v := (1 : Int32)) (by decide) ?_
  refine V.ishl (pc := 44) C dX8_stateIn_44 ?_
  refine V.ior (pc := 45) C dX8_stateIn_45 ?_
  refine V.istore (pc := 46) (L' := [(4, .int (((a3 >>> (q5.1 &&& 31)) &&& (1 : Int32)) ||| (((a3 >>> (q14.1 &&& 31)) &&& (1 : Int32)) <<< ((1 : Int32) &&& 31)))), (0, .ref a0), (1, .ref a1), (2, .int a2), (3, .int a3)]) C dX8_stateIn_46 (by decide) rfl ?_
  refine V.iload (pc := 48) C dX8_stateIn_48 0 rfl ?_
  obtain ⟨f1, f2⟩ := fin2 hf
  clear hf
  subst f1
  subst f2
  exact V.iret (pc := 50) C rfl dX8_stateIn_50
theorem dX8_ofEscape_0 : decode cX8_ofEscape 0 = .ok (.aload_n 1, 1) := by decide +kernel
theorem dX8_ofEscape_1 : decode cX8_ofEscape 1 = .ok (.iload_n 3, 1) := by decide +kernel
theorem dX8_ofEscape_2 : decode cX8_ofEscape 2 = .ok (.aload_n 0, 1) := by decide +kernel
theorem dX8_ofEscape_3 : decode cX8_ofEscape 3 = .ok (.getfield 38, 3) := by decide +kernel
theorem dX8_ofEscape_6 : decode cX8_ofEscape 6 = .ok (.getfield 105, 3) := by decide +kernel
theorem dX8_ofEscape_9 : decode cX8_ofEscape 9 = .ok (.invokevirtual 251, 3) := by decide +kernel
theorem dX8_ofEscape_12 : decode cX8_ofEscape 12 = .ok (.istore 5, 2) := by decide +kernel
theorem dX8_ofEscape_14 : decode cX8_ofEscape 14 = .ok (.aload_n 1, 1) := by decide +kernel
theorem dX8_ofEscape_15 : decode cX8_ofEscape 15 = .ok (.iload_n 3, 1) := by decide +kernel
theorem dX8_ofEscape_16 : decode cX8_ofEscape 16 = .ok (.aload_n 0, 1) := by decide +kernel
theorem dX8_ofEscape_17 : decode cX8_ofEscape 17 = .ok (.getfield 38, 3) := by decide +kernel
theorem dX8_ofEscape_20 : decode cX8_ofEscape 20 = .ok (.getfield 105, 3) := by decide +kernel
theorem dX8_ofEscape_23 : decode cX8_ofEscape 23 = .ok (.invokevirtual 254, 3) := by decide +kernel
theorem dX8_ofEscape_26 : decode cX8_ofEscape 26 = .ok (.istore 6, 2) := by decide +kernel
theorem dX8_ofEscape_28 : decode cX8_ofEscape 28 = .ok (.iload 4, 2) := by decide +kernel
theorem dX8_ofEscape_30 : decode cX8_ofEscape 30 = .ok (.ifCond .ne 6, 3) := by decide +kernel
theorem dX8_ofEscape_33 : decode cX8_ofEscape 33 = .ok (.iload 6, 2) := by decide +kernel
theorem dX8_ofEscape_35 : decode cX8_ofEscape 35 = .ok (.ireturn, 1) := by decide +kernel
theorem dX8_ofEscape_36 : decode cX8_ofEscape 36 = .ok (.iload 4, 2) := by decide +kernel
theorem dX8_ofEscape_38 : decode cX8_ofEscape 38 = .ok (.iconst 1, 1) := by decide +kernel
theorem dX8_ofEscape_39 : decode cX8_ofEscape 39 = .ok (.if_icmp .ne 6, 3) := by decide +kernel
theorem dX8_ofEscape_42 : decode cX8_ofEscape 42 = .ok (.iload 5, 2) := by decide +kernel
theorem dX8_ofEscape_44 : decode cX8_ofEscape 44 = .ok (.ireturn, 1) := by decide +kernel
theorem dX8_ofEscape_45 : decode cX8_ofEscape 45 = .ok (.aload_n 0, 1) := by decide +kernel
theorem dX8_ofEscape_46 : decode cX8_ofEscape 46 = .ok (.aload_n 1, 1) := by decide +kernel
theorem dX8_ofEscape_47 : decode cX8_ofEscape 47 = .ok (.iload_n 3, 1) := by decide +kernel
theorem dX8_ofEscape_48 : decode cX8_ofEscape 48 = .ok (.invokevirtual 264, 3) := by decide +kernel
theorem dX8_ofEscape_51 : decode cX8_ofEscape 51 = .ok (.iconst 1, 1) := by decide +kernel
theorem dX8_ofEscape_52 : decode cX8_ofEscape 52 = .ok (.iload 6, 2) := by decide +kernel
theorem dX8_ofEscape_54 : decode cX8_ofEscape 54 = .ok (.ishl, 1) := by decide +kernel
theorem dX8_ofEscape_55 : decode cX8_ofEscape 55 = .ok (.aload_n 1, 1) := by decide +kernel
theorem dX8_ofEscape_56 : decode cX8_ofEscape 56 = .ok (.getfield 101, 3) := by decide +kernel
theorem dX8_ofEscape_59 : decode cX8_ofEscape 59 = .ok (.ifCond .eq 10, 3) := by decide +kernel
theorem dX8_ofEscape_62 : decode cX8_ofEscape 62 = .ok (.iconst 1, 1) := by decide +kernel
theorem dX8_ofEscape_63 : decode cX8_ofEscape 63 = .ok (.iload 5, 2) := by decide +kernel
theorem dX8_ofEscape_65 : decode cX8_ofEscape 65 = .ok (.ishl, 1) := by decide +kernel
theorem dX8_ofEscape_66 : decode cX8_ofEscape 66 = .ok (.goto 4, 3) := by decide +kernel
theorem dX8_ofEscape_69 : decode cX8_ofEscape 69 = .ok (.iconst 0, 1) := by decide +kernel
theorem dX8_ofEscape_70 : decode cX8_ofEscape 70 = .ok (.ior, 1) := by decide +kernel
theorem dX8_ofEscape_71 : decode cX8_ofEscape 71 = .ok (.istore 7, 2) := by decide +kernel
theorem dX8_ofEscape_73 : decode cX8_ofEscape 73 = .ok (.iconst 0, 1) := by decide +kernel
theorem dX8_ofEscape_74 : decode cX8_ofEscape 74 = .ok (.istore 8, 2) := by decide +kernel
theorem dX8_ofEscape_76 : decode cX8_ofEscape 76 = .ok (.iload 8, 2) := by decide +kernel
theorem dX8_ofEscape_78 : decode cX8_ofEscape 78 = .ok (.iload 7, 2) := by decide +kernel
theorem dX8_ofEscape_80 : decode cX8_ofEscape 80 = .ok (.if_icmp .gt 55, 3) := by decide +kernel
theorem dX8_ofEscape_83 : decode cX8_ofEscape 83 = .ok (.iload 8, 2) := by decide +kernel
theorem dX8_ofEscape_85 : decode cX8_ofEscape 85 = .ok (.iload 7, 2) := by decide +kernel
theorem dX8_ofEscape_87 : decode cX8_ofEscape 87 = .ok (.iconst (-1), 1) := by decide +kernel
theorem dX8_ofEscape_88 : decode cX8_ofEscape 88 = .ok (.ixor, 1) := by decide +kernel
theorem dX8_ofEscape_89 : decode cX8_ofEscape 89 = .ok (.iand, 1) := by decide +kernel
theorem dX8_ofEscape_90 : decode cX8_ofEscape 90 = .ok (.ifCond .ne 39, 3) := by decide +kernel
theorem dX8_ofEscape_93 : decode cX8_ofEscape 93 = .ok (.aload_n 0, 1) := by decide +kernel
theorem dX8_ofEscape_94 : decode cX8_ofEscape 94 = .ok (.aload_n 1, 1) := by decide +kernel
theorem dX8_ofEscape_95 : decode cX8_ofEscape 95 = .ok (.aload_n 2, 1) := by decide +kernel
theorem dX8_ofEscape_96 : decode cX8_ofEscape 96 = .ok (.aload_n 0, 1) := by decide +kernel
theorem dX8_ofEscape_97 : decode cX8_ofEscape 97 = .ok (.aload_n 1, 1) := by decide +kernel
theorem dX8_ofEscape_98 : decode cX8_ofEscape 98 = .ok (.iload_n 3, 1) := by decide +kernel
theorem dX8_ofEscape_99 : decode cX8_ofEscape 99 = .ok (.iload 8, 2) := by decide +kernel
theorem dX8_ofEscape_101 : decode cX8_ofEscape 101 = .ok (.invokevirtual 268, 3) := by decide +kernel
theorem dX8_ofEscape_104 : decode cX8_ofEscape 104 = .ok (.invokevirtual 300, 3) := by decide +kernel
theorem dX8_ofEscape_107 : decode cX8_ofEscape 107 = .ok (.istore 9, 2) := by decide +kernel
theorem dX8_ofEscape_109 : decode cX8_ofEscape 109 = .ok (.iload 9, 2) := by decide +kernel
theorem dX8_ofEscape_111 : decode cX8_ofEscape 111 = .ok (.iconst (-1), 1) := by decide +kernel
theorem dX8_ofEscape_112 : decode cX8_ofEscape 112 = .ok (.if_icmp .eq 17, 3) := by decide +kernel
theorem dX8_ofEscape_115 : decode cX8_ofEscape 115 = .ok (.iload 4, 2) := by decide +kernel
theorem dX8_ofEscape_117 : decode cX8_ofEscape 117 = .ok (.iconst 2, 1) := by decide +kernel
theorem dX8_ofEscape_118 : decode cX8_ofEscape 118 = .ok (.if_icmp .ne 8, 3) := by decide +kernel
theorem dX8_ofEscape_121 : decode cX8_ofEscape 121 = .ok (.iload 8, 2) := by decide +kernel
theorem dX8_ofEscape_123 : decode cX8_ofEscape 123 = .ok (.goto 5, 3) := by decide +kernel
theorem dX8_ofEscape_126 : decode cX8_ofEscape 126 = .ok (.iload 9, 2) := by decide +kernel
theorem dX8_ofEscape_128 : decode cX8_ofEscape 128 = .ok (.ireturn, 1) := by decide +kernel
theorem dX8_ofEscape_129 : decode cX8_ofEscape 129 = .ok (.iinc 8 1, 3) := by decide +kernel
theorem dX8_ofEscape_132 : decode cX8_ofEscape 132 = .ok (.goto (-56), 3) := by decide +kernel
theorem dX8_ofEscape_135 : decode cX8_ofEscape 135 = .ok (.bipush (-2), 2) := by decide +kernel
theorem dX8_ofEscape_137 : decode cX8_ofEscape 137 = .ok (.ireturn, 1) := by decide +kernel
def fX8_ofEscape_129 (k76 : PH → Nat → Nat → Nat → Int32 → Int32 → Int32 → Int32 → Option (Int32 × PH)) (g : PH) (v0 : Nat) (v1 : Nat) (v2 : Nat) (v3 : Int32) (v4 : Int32) (v7 : Int32) (v8 : Int32) : Option (Int32 × PH) :=
  k76 g v0 v1 v2 v3 v4 v7 (v8 + (1 : Int32))
set_option maxHeartbeats 4000000 in
set_option maxRecDepth 100000 in
theorem bX8_ofEscape_129 {K : HK} {E : HE} {r : Int32} {g' : PH} {k76 : PH → Nat → Nat → Nat → Int32 → Int32 → Int32 → Int32 → Option (Int32 × PH)} (C : VC K E 10 cX8_ofEscape RX8 (some .int)) (hk76 : ∀ (g : PH) (v0 : Nat) (v1 : Nat) (v2 : Nat) (v3 : Int32) (v4 : Int32) (v7 : Int32) (v8 : Int32), k76 g v0 v1 v2 v3 v4 v7 v8 = some (r, g') → V K E (hRm 4 107 0 0) 10 (hZ K E (some (.int r)) g' 0 0) 0 0 (kS K) g 76 [(0, .ref v0), (1, .ref v1), (2, .ref v2), (3, .int v3), (4, .int v4), (7, .int v7), (8, .int v8)] []) {g : PH} {v0 : Nat} {v1 : Nat} {v2 : Nat} {v3 : Int32} {v4 : Int32} {v7 : Int32} {v8 : Int32} (hf : fX8_ofEscape_129 k76 g v0 v1 v2 v3 v4 v7 v8 = some (r, g')) : V K E (hRm 4 107 0 0) 10 (hZ K E (some (.int r)) g' 0 0) 0 0 (kS K) g 129 [(0, .ref v0), (1, .ref v1), (2, .ref v2), (3, .int v3), (4, .int v4), (7, .int v7), (8, .int v8)] [] := by
  unfold fX8_ofEscape_129 at hf
  refine V.iinc (pc := 129) (v := (v8 + (1 : Int32))) (L' := [(8, .int (v8 + (1 : Int32))), (0, .ref v0), (1, .ref v1), (2, .ref v2), (3, .int v3), (4, .int v4), (7, .int v7)]) C dX8_ofEscape_129 6 rfl rfl (by decide) rfl ?_
  refine V.goto (pc := 132) (t := 76) C dX8_ofEscape_132 (by decide) ?_
  refine V.sub (L' := [(0, .ref v0), (1, .ref v1), (2, .ref v2), (3, .int v3), (4, .int v4), (7, .int v7), (8, .int (v8 + (1 : Int32)))]) [1, 2, 3, 4, 5, 6, 0] rfl ?_
  exact hk76 _ _ _ _ _ _ _ _ hf
def fX8_ofEscape_76  : Nat → PH → Nat → Nat → Nat → Int32 → Int32 → Int32 → Int32 → Option (Int32 × PH)
  | 0, _, _, _, _, _, _, _, _ => none
  | n + 1, g, v0, v1, v2, v3, v4, v7, v8 =>
  if v7 < v8 then (some ((-2 : Int32), g)) else
  (if (v8 &&& (v7 ^^^ (-1 : Int32))) = 0 then ((fX8_stateIn g v0 v1 v3 v8).bind fun q3 =>
  ((fX8_firstBlindChoice q3.2 v0 v1 v2 q3.1).bind fun q5 =>
  (if q5.1 = (-1 : Int32) then (fX8_ofEscape_129 (fX8_ofEscape_76 n) q5.2 v0 v1 v2 v3 v4 v7 v8) else
  (if v4 = (2 : Int32) then (some (v8, q5.2)) else
  (some (q5.1, q5.2)))))) else
  (fX8_ofEscape_129 (fX8_ofEscape_76 n) g v0 v1 v2 v3 v4 v7 v8))
set_option maxHeartbeats 4000000 in
set_option maxRecDepth 100000 in
theorem bX8_ofEscape_76 {K : HK} {E : HE} {r : Int32} {g' : PH}  (C : VC K E 10 cX8_ofEscape RX8 (some .int))  : ∀ (n : Nat) (g : PH) (v0 : Nat) (v1 : Nat) (v2 : Nat) (v3 : Int32) (v4 : Int32) (v7 : Int32) (v8 : Int32), fX8_ofEscape_76  n g v0 v1 v2 v3 v4 v7 v8 = some (r, g') → V K E (hRm 4 107 0 0) 10 (hZ K E (some (.int r)) g' 0 0) 0 0 (kS K) g 76 [(0, .ref v0), (1, .ref v1), (2, .ref v2), (3, .int v3), (4, .int v4), (7, .int v7), (8, .int v8)] [] := by
  intro n
  induction n with
  | zero =>
    intro g v0 v1 v2 v3 v4 v7 v8 hf
    rw [fX8_ofEscape_76] at hf
    cases hf
  | succ n ih =>
    intro g v0 v1 v2 v3 v4 v7 v8 hf
    rw [fX8_ofEscape_76] at hf
    refine V.iload (pc := 76) C dX8_ofEscape_76 6 rfl ?_
    refine V.iload (pc := 78) C dX8_ofEscape_78 5 rfl ?_
    refine V.icmp_gt (pc := 80) (t := 135) C dX8_ofEscape_80 (by decide) (fun c1 => ?_) (fun c1 => ?_)
    · replace hf := ite_t c1 hf
      refine V.bipush (pc := 135) C dX8_ofEscape_135 (v := (-2 : Int32)) (by decide) ?_
      obtain ⟨f1, f2⟩ := fin2 hf
      clear hf
      subst f1
      subst f2
      exact V.iret (pc := 137) C rfl dX8_ofEscape_137
    replace hf := ite_f c1 hf
    refine V.iload (pc := 83) C dX8_ofEscape_83 6 rfl ?_
    refine V.iload (pc := 85) C dX8_ofEscape_85 5 rfl ?_
    refine V.iconst (pc := 87) C dX8_ofEscape_87 (v := (-1 : Int32)) (by decide) ?_
    refine V.ixor (pc := 88) C dX8_ofEscape_88 ?_
    refine V.iand (pc := 89) C dX8_ofEscape_89 ?_
    refine V.if_ne (pc := 90) (t := 129) C dX8_ofEscape_90 (by decide) (fun c2 => ?_) (fun c2 => ?_)
    · replace hf := ite_f c2 hf
      refine V.sub (L' := [(0, .ref v0), (1, .ref v1), (2, .ref v2), (3, .int v3), (4, .int v4), (7, .int v7), (8, .int v8)]) [0, 1, 2, 3, 4, 5, 6] rfl ?_
      exact bX8_ofEscape_129 C ih hf
    replace hf := ite_t c2 hf
    refine V.aload_n (pc := 93) C dX8_ofEscape_93 0 rfl ?_
    refine V.aload_n (pc := 94) C dX8_ofEscape_94 1 rfl ?_
    refine V.aload_n (pc := 95) C dX8_ofEscape_95 2 rfl ?_
    refine V.aload_n (pc := 96) C dX8_ofEscape_96 0 rfl ?_
    refine V.aload_n (pc := 97) C dX8_ofEscape_97 1 rfl ?_
    refine V.iload_n (pc := 98) C dX8_ofEscape_98 3 rfl ?_
    refine V.iload (pc := 99) C dX8_ofEscape_99 6 rfl ?_
    replace hf := ob_some hf
    obtain ⟨q3, h4, hf⟩ := hf
    refine V.callV0i (pc := 101) C hyX8_stateIn wd_659 (mX8_stateIn (r := q3.1) (g' := q3.2) K.2.1 E (kS K) h4) rfl rfl rfl (oX8_stateIn h4) ⟨Nat.le_of_ble_eq_true rfl, Nat.le_of_ble_eq_true rfl⟩ (Nat.le_of_ble_eq_true rfl) dX8_ofEscape_101 ⟨Nat.zero_le _, Nat.zero_le _⟩ rfl ?_
    replace hf := ob_some hf
    obtain ⟨q5, h6, hf⟩ := hf
    refine V.callV0i (pc := 104) C hyX8_firstBlindChoice wd_586 (mX8_firstBlindChoice (r := q5.1) (g' := q5.2) K.2.1 E (kS K) h6) rfl rfl rfl (oX8_firstBlindChoice h6) ⟨Nat.le_of_ble_eq_true rfl, Nat.le_of_ble_eq_true rfl⟩ (Nat.le_of_ble_eq_true rfl) dX8_ofEscape_104 ⟨Nat.zero_le _, Nat.zero_le _⟩ rfl ?_
    refine V.istore (pc := 107) (L' := [(9, .int q5.1), (0, .ref v0), (1, .ref v1), (2, .ref v2), (3, .int v3), (4, .int v4), (7, .int v7), (8, .int v8)]) C dX8_ofEscape_107 (by decide) rfl ?_
    refine V.iload (pc := 109) C dX8_ofEscape_109 0 rfl ?_
    refine V.iconst (pc := 111) C dX8_ofEscape_111 (v := (-1 : Int32)) (by decide) ?_
    refine V.icmp_eq (pc := 112) (t := 129) C dX8_ofEscape_112 (by decide) (fun c7 => ?_) (fun c7 => ?_)
    · replace hf := ite_t c7 hf
      refine V.sub (L' := [(0, .ref v0), (1, .ref v1), (2, .ref v2), (3, .int v3), (4, .int v4), (7, .int v7), (8, .int v8)]) [1, 2, 3, 4, 5, 6, 7] rfl ?_
      exact bX8_ofEscape_129 C ih hf
    replace hf := ite_f c7 hf
    refine V.iload (pc := 115) C dX8_ofEscape_115 5 rfl ?_
    refine V.iconst (pc := 117) C dX8_ofEscape_117 (v := (2 : Int32)) (by decide) ?_
    refine V.icmp_ne (pc := 118) (t := 126) C dX8_ofEscape_118 (by decide) (fun c8 => ?_) (fun c8 => ?_)
    · replace hf := ite_f c8 hf
      refine V.iload (pc := 126) C dX8_ofEscape_126 0 rfl ?_
      obtain ⟨f1, f2⟩ := fin2 hf
      clear hf
      subst f1
      subst f2
      exact V.iret (pc := 128) C rfl dX8_ofEscape_128
    replace hf := ite_t c8 hf
    refine V.iload (pc := 121) C dX8_ofEscape_121 7 rfl ?_
    refine V.goto (pc := 123) (t := 128) C dX8_ofEscape_123 (by decide) ?_
    obtain ⟨f1, f2⟩ := fin2 hf
    clear hf
    subst f1
    subst f2
    exact V.iret (pc := 128) C rfl dX8_ofEscape_128
def fX8_ofEscape_70  (g : PH) (v0 : Nat) (v1 : Nat) (v2 : Nat) (v3 : Int32) (v4 : Int32) (s0 : Int32) (s1 : Int32) : Option (Int32 × PH) :=
  fX8_ofEscape_76 FUEL g v0 v1 v2 v3 v4 (s1 ||| s0) (0 : Int32)
set_option maxHeartbeats 4000000 in
set_option maxRecDepth 100000 in
theorem bX8_ofEscape_70 {K : HK} {E : HE} {r : Int32} {g' : PH}  (C : VC K E 10 cX8_ofEscape RX8 (some .int))  {g : PH} {v0 : Nat} {v1 : Nat} {v2 : Nat} {v3 : Int32} {v4 : Int32} {s0 : Int32} {s1 : Int32} (hf : fX8_ofEscape_70  g v0 v1 v2 v3 v4 s0 s1 = some (r, g')) : V K E (hRm 4 107 0 0) 10 (hZ K E (some (.int r)) g' 0 0) 0 0 (kS K) g 70 [(0, .ref v0), (1, .ref v1), (2, .ref v2), (3, .int v3), (4, .int v4)] [.int s0, .int s1] := by
  unfold fX8_ofEscape_70 at hf
  refine V.ior (pc := 70) C dX8_ofEscape_70 ?_
  refine V.istore (pc := 71) (L' := [(7, .int (s1 ||| s0)), (0, .ref v0), (1, .ref v1), (2, .ref v2), (3, .int v3), (4, .int v4)]) C dX8_ofEscape_71 (by decide) rfl ?_
  refine V.iconst (pc := 73) C dX8_ofEscape_73 (v := (0 : Int32)) (by decide) ?_
  refine V.istore (pc := 74) (L' := [(8, .int (0 : Int32)), (7, .int (s1 ||| s0)), (0, .ref v0), (1, .ref v1), (2, .ref v2), (3, .int v3), (4, .int v4)]) C dX8_ofEscape_74 (by decide) rfl ?_
  refine V.sub (L' := [(0, .ref v0), (1, .ref v1), (2, .ref v2), (3, .int v3), (4, .int v4), (7, .int (s1 ||| s0)), (8, .int (0 : Int32))]) [2, 3, 4, 5, 6, 1, 0] rfl ?_
  exact bX8_ofEscape_76 C  _ _ _ _ _ _ _ _ _ hf
def fX8_ofEscape (g : PH) (a0 : Nat) (a1 : Nat) (a2 : Nat) (a3 : Int32) (a4 : Int32) : Option (Int32 × PH) :=
  okb (isO g a0 8) ((getR g a0 8 5).bind fun p1 =>
  ((getI g p1 3 0).bind fun x3 =>
  ((fX1_aggressorOf g a1 a3 x3).bind fun q5 =>
  ((getR q5.2 a0 8 5).bind fun p7 =>
  ((getI q5.2 p7 3 0).bind fun x9 =>
  ((fX1_victimOf q5.2 a1 a3 x9).bind fun q11 =>
  (if a4 = 0 then (some (q11.1, q11.2)) else
  (if a4 = (1 : Int32) then (some (q5.1, q11.2)) else
  ((fX8_aim q11.2 a0 a1 a3).bind fun q15 =>
  ((getI q15.2 a1 1 1).bind fun x17 =>
  (if x17 = 0 then (fX8_ofEscape_70 q15.2 a0 a1 a2 a3 a4 (0 : Int32) ((1 : Int32) <<< (q11.1 &&& 31))) else
  (fX8_ofEscape_70 q15.2 a0 a1 a2 a3 a4 ((1 : Int32) <<< (q5.1 &&& 31)) ((1 : Int32) <<< (q11.1 &&& 31))))))))))))))
theorem oX8_ofEscape {g : PH} {a0 : Nat} {a1 : Nat} {a2 : Nat} {a3 : Int32} {a4 : Int32} {q : (Int32 × PH)} (h : fX8_ofEscape g a0 a1 a2 a3 a4 = some q) : isO g a0 8 = true := by unfold fX8_ofEscape at h; exact (okb_some h).1
theorem hyX8_ofEscape : hMet yX8_ofEscape RX8 cX8_ofEscape 10 (some .int) 4 := ⟨wd_658, wd_657, ws_25, wd_1, rfl, by decide +kernel, by decide +kernel, by decide +kernel⟩
set_option maxHeartbeats 4000000 in
set_option maxRecDepth 100000 in
theorem mX8_ofEscape (l : Launch) (E : HE) (sz : Nat) {g g' : PH} {a0 : Nat} {a1 : Nat} {a2 : Nat} {a3 : Int32} {a4 : Int32} {r : Int32} (hf : fX8_ofEscape g a0 a1 a2 a3 a4 = some (r, g')) : hM l E yX8_ofEscape cX8_ofEscape 10 (some .int) 4 107 0 0 sz g [.ref a0, .ref a1, .ref a2, .int a3, .int a4] (some (.int r)) g' := by
  refine hM.of (by decide) (Nat.le_of_ble_eq_true rfl) (fun K hl C hin hsz => ?_)
  subst hl
  subst hsz
  have C : VC K E 10 cX8_ofEscape RX8 (some .int) := C
  unfold fX8_ofEscape at hf
  replace hf := okb_some hf
  obtain ⟨ho, hf⟩ := hf
  refine V.start (L' := [(0, .ref a0), (1, .ref a1), (2, .ref a2), (3, .int a3), (4, .int a4)]) rfl ?_
  refine V.aload_n (pc := 0) C dX8_ofEscape_0 1 rfl ?_
  refine V.iload_n (pc := 1) C dX8_ofEscape_1 3 rfl ?_
  refine V.aload_n (pc := 2) C dX8_ofEscape_2 0 rfl ?_
  replace hf := ob_some hf
  obtain ⟨p1, h2, hf⟩ := hf
  refine V.getR (pc := 3) C kX8 (k := 5) (by decide) wd_193 h2 dX8_ofEscape_3 ?_
  replace hf := ob_some hf
  obtain ⟨x3, h4, hf⟩ := hf
  refine V.getI (pc := 6) C kX3 (k := 0) (by decide) wd_60 h4 dX8_ofEscape_6 ?_
  replace hf := ob_some hf
  obtain ⟨q5, h6, hf⟩ := hf
  refine V.callV0i (pc := 9) C hyX1_aggressorOf wd_630 (mX1_aggressorOf (r := q5.1) (g' := q5.2) K.2.1 E (kS K) h6) rfl rfl rfl (oX1_aggressorOf h6) ⟨Nat.le_of_ble_eq_true rfl, Nat.le_of_ble_eq_true rfl⟩ (Nat.le_of_ble_eq_true rfl) dX8_ofEscape_9 ⟨Nat.zero_le _, Nat.zero_le _⟩ rfl ?_
  refine V.istore (pc := 12) (L' := [(5, .int q5.1), (0, .ref a0), (1, .ref a1), (2, .ref a2), (3, .int a3), (4, .int a4)]) C dX8_ofEscape_12 (by decide) rfl ?_
  refine V.aload_n (pc := 14) C dX8_ofEscape_14 2 rfl ?_
  refine V.iload_n (pc := 15) C dX8_ofEscape_15 4 rfl ?_
  refine V.aload_n (pc := 16) C dX8_ofEscape_16 1 rfl ?_
  replace hf := ob_some hf
  obtain ⟨p7, h8, hf⟩ := hf
  refine V.getR (pc := 17) C kX8 (k := 5) (by decide) wd_193 h8 dX8_ofEscape_17 ?_
  replace hf := ob_some hf
  obtain ⟨x9, h10, hf⟩ := hf
  refine V.getI (pc := 20) C kX3 (k := 0) (by decide) wd_60 h10 dX8_ofEscape_20 ?_
  replace hf := ob_some hf
  obtain ⟨q11, h12, hf⟩ := hf
  refine V.callV0i (pc := 23) C hyX1_victimOf wd_635 (mX1_victimOf (r := q11.1) (g' := q11.2) K.2.1 E (kS K) h12) rfl rfl rfl (oX1_victimOf h12) ⟨Nat.le_of_ble_eq_true rfl, Nat.le_of_ble_eq_true rfl⟩ (Nat.le_of_ble_eq_true rfl) dX8_ofEscape_23 ⟨Nat.zero_le _, Nat.zero_le _⟩ rfl ?_
  refine V.istore (pc := 26) (L' := [(6, .int q11.1), (5, .int q5.1), (0, .ref a0), (1, .ref a1), (2, .ref a2), (3, .int a3), (4, .int a4)]) C dX8_ofEscape_26 (by decide) rfl ?_
  refine V.iload (pc := 28) C dX8_ofEscape_28 6 rfl ?_
  refine V.if_ne (pc := 30) (t := 36) C dX8_ofEscape_30 (by decide) (fun c13 => ?_) (fun c13 => ?_)
  · replace hf := ite_f c13 hf
    refine V.iload (pc := 36) C dX8_ofEscape_36 6 rfl ?_
    refine V.iconst (pc := 38) C dX8_ofEscape_38 (v := (1 : Int32)) (by decide) ?_
    refine V.icmp_ne (pc := 39) (t := 45) C dX8_ofEscape_39 (by decide) (fun c14 => ?_) (fun c14 => ?_)
    · replace hf := ite_f c14 hf
      refine V.aload_n (pc := 45) C dX8_ofEscape_45 2 rfl ?_
      refine V.aload_n (pc := 46) C dX8_ofEscape_46 3 rfl ?_
      refine V.iload_n (pc := 47) C dX8_ofEscape_47 5 rfl ?_
      replace hf := ob_some hf
      obtain ⟨q15, h16, hf⟩ := hf
      refine V.callV0v (pc := 48) C hyX8_aim wd_643 (mX8_aim (r := q15.1) (g' := q15.2) K.2.1 E (kS K) h16) rfl rfl rfl (oX8_aim h16) ⟨Nat.le_of_ble_eq_true rfl, Nat.le_of_ble_eq_true rfl⟩ (Nat.le_of_ble_eq_true rfl) dX8_ofEscape_48 ⟨Nat.zero_le _, Nat.zero_le _⟩ rfl ?_
      refine V.iconst (pc := 51) C dX8_ofEscape_51 (v := (1 : Int32)) (by decide) ?_
      refine V.iload (pc := 52) C dX8_ofEscape_52 0 rfl ?_
      refine V.ishl (pc := 54) C dX8_ofEscape_54 ?_
      refine V.aload_n (pc := 55) C dX8_ofEscape_55 3 rfl ?_
      replace hf := ob_some hf
      obtain ⟨x17, h18, hf⟩ := hf
      refine V.getI (pc := 56) C kX1 (k := 1) (by decide) wd_249 h18 dX8_ofEscape_56 ?_
      refine V.if_eq (pc := 59) (t := 69) C dX8_ofEscape_59 (by decide) (fun c19 => ?_) (fun c19 => ?_)
      · replace hf := ite_t c19 hf
        refine V.iconst (pc := 69) C dX8_ofEscape_69 (v := (0 : Int32)) (by decide) ?_
        refine V.sub (L' := [(0, .ref a0), (1, .ref a1), (2, .ref a2), (3, .int a3), (4, .int a4)]) [2, 3, 4, 5, 6] rfl ?_
        exact bX8_ofEscape_70 C  hf
      replace hf := ite_f c19 hf
      refine V.iconst (pc := 62) C dX8_ofEscape_62 (v := (1 : Int32)) (by decide) ?_
      refine V.iload (pc := 63) C dX8_ofEscape_63 1 rfl ?_
      refine V.ishl (pc := 65) C dX8_ofEscape_65 ?_
      refine V.goto (pc := 66) (t := 70) C dX8_ofEscape_66 (by decide) ?_
      refine V.sub (L' := [(0, .ref a0), (1, .ref a1), (2, .ref a2), (3, .int a3), (4, .int a4)]) [2, 3, 4, 5, 6] rfl ?_
      exact bX8_ofEscape_70 C  hf
    replace hf := ite_t c14 hf
    refine V.iload (pc := 42) C dX8_ofEscape_42 1 rfl ?_
    obtain ⟨f1, f2⟩ := fin2 hf
    clear hf
    subst f1
    subst f2
    exact V.iret (pc := 44) C rfl dX8_ofEscape_44
  replace hf := ite_t c13 hf
  refine V.iload (pc := 33) C dX8_ofEscape_33 0 rfl ?_
  obtain ⟨f1, f2⟩ := fin2 hf
  clear hf
  subst f1
  subst f2
  exact V.iret (pc := 35) C rfl dX8_ofEscape_35
theorem dX8_escape_0 : decode cX8_escape 0 = .ok (.aload_n 0, 1) := by decide +kernel
theorem dX8_escape_1 : decode cX8_escape 1 = .ok (.iload_n 2, 1) := by decide +kernel
theorem dX8_escape_2 : decode cX8_escape 2 = .ok (.invokevirtual 94, 3) := by decide +kernel
theorem dX8_escape_5 : decode cX8_escape 5 = .ok (.astore 5, 2) := by decide +kernel
theorem dX8_escape_7 : decode cX8_escape 7 = .ok (.aload_n 0, 1) := by decide +kernel
theorem dX8_escape_8 : decode cX8_escape 8 = .ok (.iload_n 1, 1) := by decide +kernel
theorem dX8_escape_9 : decode cX8_escape 9 = .ok (.invokevirtual 112, 3) := by decide +kernel
theorem dX8_escape_12 : decode cX8_escape 12 = .ok (.astore 6, 2) := by decide +kernel
theorem dX8_escape_14 : decode cX8_escape 14 = .ok (.aload 5, 2) := by decide +kernel
theorem dX8_escape_16 : decode cX8_escape 16 = .ok (.ifnull 19, 3) := by decide +kernel
theorem dX8_escape_19 : decode cX8_escape 19 = .ok (.aload 6, 2) := by decide +kernel
theorem dX8_escape_21 : decode cX8_escape 21 = .ok (.ifnull 14, 3) := by decide +kernel
theorem dX8_escape_24 : decode cX8_escape 24 = .ok (.iload 4, 2) := by decide +kernel
theorem dX8_escape_26 : decode cX8_escape 26 = .ok (.ifCond .lt 9, 3) := by decide +kernel
theorem dX8_escape_29 : decode cX8_escape 29 = .ok (.iload 4, 2) := by decide +kernel
theorem dX8_escape_31 : decode cX8_escape 31 = .ok (.iconst 3, 1) := by decide +kernel
theorem dX8_escape_32 : decode cX8_escape 32 = .ok (.if_icmp .le 5, 3) := by decide +kernel
theorem dX8_escape_35 : decode cX8_escape 35 = .ok (.iconst (-1), 1) := by decide +kernel
theorem dX8_escape_36 : decode cX8_escape 36 = .ok (.ireturn, 1) := by decide +kernel
theorem dX8_escape_37 : decode cX8_escape 37 = .ok (.aload_n 0, 1) := by decide +kernel
theorem dX8_escape_38 : decode cX8_escape 38 = .ok (.iload_n 1, 1) := by decide +kernel
theorem dX8_escape_39 : decode cX8_escape 39 = .ok (.iload_n 2, 1) := by decide +kernel
theorem dX8_escape_40 : decode cX8_escape 40 = .ok (.invokevirtual 146, 3) := by decide +kernel
theorem dX8_escape_43 : decode cX8_escape 43 = .ok (.istore 7, 2) := by decide +kernel
theorem dX8_escape_45 : decode cX8_escape 45 = .ok (.iconst 0, 1) := by decide +kernel
theorem dX8_escape_46 : decode cX8_escape 46 = .ok (.istore 8, 2) := by decide +kernel
theorem dX8_escape_48 : decode cX8_escape 48 = .ok (.iload 8, 2) := by decide +kernel
theorem dX8_escape_50 : decode cX8_escape 50 = .ok (.aload 5, 2) := by decide +kernel
theorem dX8_escape_52 : decode cX8_escape 52 = .ok (.aload_n 0, 1) := by decide +kernel
theorem dX8_escape_53 : decode cX8_escape 53 = .ok (.getfield 38, 3) := by decide +kernel
theorem dX8_escape_56 : decode cX8_escape 56 = .ok (.getfield 105, 3) := by decide +kernel
theorem dX8_escape_59 : decode cX8_escape 59 = .ok (.invokevirtual 108, 3) := by decide +kernel
theorem dX8_escape_62 : decode cX8_escape 62 = .ok (.if_icmp .ge 47, 3) := by decide +kernel
theorem dX8_escape_65 : decode cX8_escape 65 = .ok (.aload_n 0, 1) := by decide +kernel
theorem dX8_escape_66 : decode cX8_escape 66 = .ok (.aload 5, 2) := by decide +kernel
theorem dX8_escape_68 : decode cX8_escape 68 = .ok (.iload 8, 2) := by decide +kernel
theorem dX8_escape_70 : decode cX8_escape 70 = .ok (.iload_n 3, 1) := by decide +kernel
theorem dX8_escape_71 : decode cX8_escape 71 = .ok (.invokevirtual 149, 3) := by decide +kernel
theorem dX8_escape_74 : decode cX8_escape 74 = .ok (.ifCond .eq 29, 3) := by decide +kernel
theorem dX8_escape_77 : decode cX8_escape 77 = .ok (.aload_n 0, 1) := by decide +kernel
theorem dX8_escape_78 : decode cX8_escape 78 = .ok (.aload 5, 2) := by decide +kernel
theorem dX8_escape_80 : decode cX8_escape 80 = .ok (.iload 8, 2) := by decide +kernel
theorem dX8_escape_82 : decode cX8_escape 82 = .ok (.iload 7, 2) := by decide +kernel
theorem dX8_escape_84 : decode cX8_escape 84 = .ok (.invokevirtual 153, 3) := by decide +kernel
theorem dX8_escape_87 : decode cX8_escape 87 = .ok (.ifCond .ne 16, 3) := by decide +kernel
theorem dX8_escape_90 : decode cX8_escape 90 = .ok (.aload_n 0, 1) := by decide +kernel
theorem dX8_escape_91 : decode cX8_escape 91 = .ok (.aload 5, 2) := by decide +kernel
theorem dX8_escape_93 : decode cX8_escape 93 = .ok (.aload 6, 2) := by decide +kernel
theorem dX8_escape_95 : decode cX8_escape 95 = .ok (.iload 8, 2) := by decide +kernel
theorem dX8_escape_97 : decode cX8_escape 97 = .ok (.iload 4, 2) := by decide +kernel
theorem dX8_escape_99 : decode cX8_escape 99 = .ok (.invokevirtual 157, 3) := by decide +kernel
theorem dX8_escape_102 : decode cX8_escape 102 = .ok (.ireturn, 1) := by decide +kernel
theorem dX8_escape_103 : decode cX8_escape 103 = .ok (.iinc 8 1, 3) := by decide +kernel
theorem dX8_escape_106 : decode cX8_escape 106 = .ok (.goto (-58), 3) := by decide +kernel
theorem dX8_escape_109 : decode cX8_escape 109 = .ok (.bipush (-2), 2) := by decide +kernel
theorem dX8_escape_111 : decode cX8_escape 111 = .ok (.ireturn, 1) := by decide +kernel
def fX8_escape_103 (k48 : PH → Nat → Int32 → Int32 → Nat → Nat → Int32 → Int32 → Option (Int32 × PH)) (g : PH) (v0 : Nat) (v3 : Int32) (v4 : Int32) (v5 : Nat) (v6 : Nat) (v7 : Int32) (v8 : Int32) : Option (Int32 × PH) :=
  k48 g v0 v3 v4 v5 v6 v7 (v8 + (1 : Int32))
set_option maxHeartbeats 4000000 in
set_option maxRecDepth 100000 in
theorem bX8_escape_103 {K : HK} {E : HE} {r : Int32} {g' : PH} {k48 : PH → Nat → Int32 → Int32 → Nat → Nat → Int32 → Int32 → Option (Int32 × PH)} (C : VC K E 9 cX8_escape RX8 (some .int)) (hk48 : ∀ (g : PH) (v0 : Nat) (v3 : Int32) (v4 : Int32) (v5 : Nat) (v6 : Nat) (v7 : Int32) (v8 : Int32), k48 g v0 v3 v4 v5 v6 v7 v8 = some (r, g') → V K E (hRm 6 156 0 0) 9 (hZ K E (some (.int r)) g' 0 0) 0 0 (kS K) g 48 [(0, .ref v0), (3, .int v3), (4, .int v4), (5, .ref v5), (6, .ref v6), (7, .int v7), (8, .int v8)] []) {g : PH} {v0 : Nat} {v3 : Int32} {v4 : Int32} {v5 : Nat} {v6 : Nat} {v7 : Int32} {v8 : Int32} (hf : fX8_escape_103 k48 g v0 v3 v4 v5 v6 v7 v8 = some (r, g')) : V K E (hRm 6 156 0 0) 9 (hZ K E (some (.int r)) g' 0 0) 0 0 (kS K) g 103 [(0, .ref v0), (3, .int v3), (4, .int v4), (5, .ref v5), (6, .ref v6), (7, .int v7), (8, .int v8)] [] := by
  unfold fX8_escape_103 at hf
  refine V.iinc (pc := 103) (v := (v8 + (1 : Int32))) (L' := [(8, .int (v8 + (1 : Int32))), (0, .ref v0), (3, .int v3), (4, .int v4), (5, .ref v5), (6, .ref v6), (7, .int v7)]) C dX8_escape_103 6 rfl rfl (by decide) rfl ?_
  refine V.goto (pc := 106) (t := 48) C dX8_escape_106 (by decide) ?_
  refine V.sub (L' := [(0, .ref v0), (3, .int v3), (4, .int v4), (5, .ref v5), (6, .ref v6), (7, .int v7), (8, .int (v8 + (1 : Int32)))]) [1, 2, 3, 4, 5, 6, 0] rfl ?_
  exact hk48 _ _ _ _ _ _ _ _ hf
def fX8_escape_48  : Nat → PH → Nat → Int32 → Int32 → Nat → Nat → Int32 → Int32 → Option (Int32 × PH)
  | 0, _, _, _, _, _, _, _, _ => none
  | n + 1, g, v0, v3, v4, v5, v6, v7, v8 =>
  (getR g v0 8 5).bind fun p1 =>
  ((getI g p1 3 0).bind fun x3 =>
  ((fX1_placements g v5 x3).bind fun q5 =>
  (if q5.1 ≤ v8 then (some ((-2 : Int32), q5.2)) else
  ((fX8_isAsked q5.2 v0 v5 v8 v3).bind fun q8 =>
  (if q8.1 = 0 then (fX8_escape_103 (fX8_escape_48 n) q8.2 v0 v3 v4 v5 v6 v7 v8) else
  ((fX8_isCaught q8.2 v0 v5 v8 v7).bind fun q11 =>
  (if q11.1 = 0 then ((fX8_ofEscape q11.2 v0 v5 v6 v8 v4).bind fun q14 =>
  (some (q14.1, q14.2))) else
  (fX8_escape_103 (fX8_escape_48 n) q11.2 v0 v3 v4 v5 v6 v7 v8))))))))
set_option maxHeartbeats 4000000 in
set_option maxRecDepth 100000 in
theorem bX8_escape_48 {K : HK} {E : HE} {r : Int32} {g' : PH}  (C : VC K E 9 cX8_escape RX8 (some .int))  : ∀ (n : Nat) (g : PH) (v0 : Nat) (v3 : Int32) (v4 : Int32) (v5 : Nat) (v6 : Nat) (v7 : Int32) (v8 : Int32), fX8_escape_48  n g v0 v3 v4 v5 v6 v7 v8 = some (r, g') → V K E (hRm 6 156 0 0) 9 (hZ K E (some (.int r)) g' 0 0) 0 0 (kS K) g 48 [(0, .ref v0), (3, .int v3), (4, .int v4), (5, .ref v5), (6, .ref v6), (7, .int v7), (8, .int v8)] [] := by
  intro n
  induction n with
  | zero =>
    intro g v0 v3 v4 v5 v6 v7 v8 hf
    rw [fX8_escape_48] at hf
    cases hf
  | succ n ih =>
    intro g v0 v3 v4 v5 v6 v7 v8 hf
    rw [fX8_escape_48] at hf
    refine V.iload (pc := 48) C dX8_escape_48 6 rfl ?_
    refine V.aload (pc := 50) C dX8_escape_50 3 rfl ?_
    refine V.aload_n (pc := 52) C dX8_escape_52 0 rfl ?_
    replace hf := ob_some hf
    obtain ⟨p1, h2, hf⟩ := hf
    refine V.getR (pc := 53) C kX8 (k := 5) (by decide) wd_193 h2 dX8_escape_53 ?_
    replace hf := ob_some hf
    obtain ⟨x3, h4, hf⟩ := hf
    refine V.getI (pc := 56) C kX3 (k := 0) (by decide) wd_60 h4 dX8_escape_56 ?_
    replace hf := ob_some hf
    obtain ⟨q5, h6, hf⟩ := hf
    refine V.callV0i (pc := 59) C hyX1_placements wd_541 (mX1_placements (r := q5.1) (g' := q5.2) K.2.1 E (kS K) h6) rfl rfl rfl (oX1_placements h6) ⟨Nat.le_of_ble_eq_true rfl, Nat.le_of_ble_eq_true rfl⟩ (Nat.le_of_ble_eq_true rfl) dX8_escape_59 ⟨Nat.zero_le _, Nat.zero_le _⟩ rfl ?_
    refine V.icmp_ge (pc := 62) (t := 109) C dX8_escape_62 (by decide) (fun c7 => ?_) (fun c7 => ?_)
    · replace hf := ite_t c7 hf
      refine V.bipush (pc := 109) C dX8_escape_109 (v := (-2 : Int32)) (by decide) ?_
      obtain ⟨f1, f2⟩ := fin2 hf
      clear hf
      subst f1
      subst f2
      exact V.iret (pc := 111) C rfl dX8_escape_111
    replace hf := ite_f c7 hf
    refine V.aload_n (pc := 65) C dX8_escape_65 0 rfl ?_
    refine V.aload (pc := 66) C dX8_escape_66 3 rfl ?_
    refine V.iload (pc := 68) C dX8_escape_68 6 rfl ?_
    refine V.iload_n (pc := 70) C dX8_escape_70 1 rfl ?_
    replace hf := ob_some hf
    obtain ⟨q8, h9, hf⟩ := hf
    refine V.callV0i (pc := 71) C hyX8_isAsked wd_626 (mX8_isAsked (r := q8.1) (g' := q8.2) K.2.1 E (kS K) h9) rfl rfl rfl (oX8_isAsked h9) ⟨Nat.le_of_ble_eq_true rfl, Nat.le_of_ble_eq_true rfl⟩ (Nat.le_of_ble_eq_true rfl) dX8_escape_71 ⟨Nat.zero_le _, Nat.zero_le _⟩ rfl ?_
    refine V.if_eq (pc := 74) (t := 103) C dX8_escape_74 (by decide) (fun c10 => ?_) (fun c10 => ?_)
    · replace hf := ite_t c10 hf
      refine V.sub (L' := [(0, .ref v0), (3, .int v3), (4, .int v4), (5, .ref v5), (6, .ref v6), (7, .int v7), (8, .int v8)]) [0, 1, 2, 3, 4, 5, 6] rfl ?_
      exact bX8_escape_103 C ih hf
    replace hf := ite_f c10 hf
    refine V.aload_n (pc := 77) C dX8_escape_77 0 rfl ?_
    refine V.aload (pc := 78) C dX8_escape_78 3 rfl ?_
    refine V.iload (pc := 80) C dX8_escape_80 6 rfl ?_
    refine V.iload (pc := 82) C dX8_escape_82 5 rfl ?_
    replace hf := ob_some hf
    obtain ⟨q11, h12, hf⟩ := hf
    refine V.callV0i (pc := 84) C hyX8_isCaught wd_639 (mX8_isCaught (r := q11.1) (g' := q11.2) K.2.1 E (kS K) h12) rfl rfl rfl (oX8_isCaught h12) ⟨Nat.le_of_ble_eq_true rfl, Nat.le_of_ble_eq_true rfl⟩ (Nat.le_of_ble_eq_true rfl) dX8_escape_84 ⟨Nat.zero_le _, Nat.zero_le _⟩ rfl ?_
    refine V.if_ne (pc := 87) (t := 103) C dX8_escape_87 (by decide) (fun c13 => ?_) (fun c13 => ?_)
    · replace hf := ite_f c13 hf
      refine V.sub (L' := [(0, .ref v0), (3, .int v3), (4, .int v4), (5, .ref v5), (6, .ref v6), (7, .int v7), (8, .int v8)]) [0, 1, 2, 3, 4, 5, 6] rfl ?_
      exact bX8_escape_103 C ih hf
    replace hf := ite_t c13 hf
    refine V.aload_n (pc := 90) C dX8_escape_90 0 rfl ?_
    refine V.aload (pc := 91) C dX8_escape_91 3 rfl ?_
    refine V.aload (pc := 93) C dX8_escape_93 4 rfl ?_
    refine V.iload (pc := 95) C dX8_escape_95 6 rfl ?_
    refine V.iload (pc := 97) C dX8_escape_97 2 rfl ?_
    replace hf := ob_some hf
    obtain ⟨q14, h15, hf⟩ := hf
    refine V.callV0i (pc := 99) C hyX8_ofEscape wd_655 (mX8_ofEscape (r := q14.1) (g' := q14.2) K.2.1 E (kS K) h15) rfl rfl rfl (oX8_ofEscape h15) ⟨Nat.le_of_ble_eq_true rfl, Nat.le_of_ble_eq_true rfl⟩ (Nat.le_of_ble_eq_true rfl) dX8_escape_99 ⟨Nat.zero_le _, Nat.zero_le _⟩ rfl ?_
    obtain ⟨f1, f2⟩ := fin2 hf
    clear hf
    subst f1
    subst f2
    exact V.iret (pc := 102) C rfl dX8_escape_102
def fX8_escape (g : PH) (a0 : Nat) (a1 : Int32) (a2 : Int32) (a3 : Int32) (a4 : Int32) : Option (Int32 × PH) :=
  okb (isO g a0 8) ((fX8_kindAt g a0 a2).bind fun (z2, g3) =>
  ((fX8_marchAt g3 a0 a1).bind fun (z6, g7) =>
  (z2.elim (some ((-1 : Int32), g7)) (fun p9 =>
  z6.elim (some ((-1 : Int32), g7)) (fun p10 =>
  if a4 < 0 then (some ((-1 : Int32), g7)) else
  (if a4 ≤ (3 : Int32) then ((fX8_bothOrders g7 a0 a1 a2).bind fun q13 =>
  (fX8_escape_48 FUEL q13.2 a0 a3 a4 p9 p10 q13.1 (0 : Int32))) else
  (some ((-1 : Int32), g7))))))))
theorem oX8_escape {g : PH} {a0 : Nat} {a1 : Int32} {a2 : Int32} {a3 : Int32} {a4 : Int32} {q : (Int32 × PH)} (h : fX8_escape g a0 a1 a2 a3 a4 = some q) : isO g a0 8 = true := by unfold fX8_escape at h; exact (okb_some h).1
theorem hyX8_escape : hMet yX8_escape RX8 cX8_escape 9 (some .int) 4 := ⟨wd_654, wd_652, wd_653, wd_1, rfl, by decide +kernel, by decide +kernel, by decide +kernel⟩
set_option maxHeartbeats 4000000 in
set_option maxRecDepth 100000 in
theorem mX8_escape (l : Launch) (E : HE) (sz : Nat) {g g' : PH} {a0 : Nat} {a1 : Int32} {a2 : Int32} {a3 : Int32} {a4 : Int32} {r : Int32} (hf : fX8_escape g a0 a1 a2 a3 a4 = some (r, g')) : hM l E yX8_escape cX8_escape 9 (some .int) 6 156 0 0 sz g [.ref a0, .int a1, .int a2, .int a3, .int a4] (some (.int r)) g' := by
  refine hM.of (by decide) (Nat.le_of_ble_eq_true rfl) (fun K hl C hin hsz => ?_)
  subst hl
  subst hsz
  have C : VC K E 9 cX8_escape RX8 (some .int) := C
  unfold fX8_escape at hf
  replace hf := okb_some hf
  obtain ⟨ho, hf⟩ := hf
  refine V.start (L' := [(0, .ref a0), (1, .int a1), (2, .int a2), (3, .int a3), (4, .int a4)]) rfl ?_
  refine V.aload_n (pc := 0) C dX8_escape_0 0 rfl ?_
  refine V.iload_n (pc := 1) C dX8_escape_1 2 rfl ?_
  replace hf := ob_some hf
  obtain ⟨⟨z2, g3⟩, h4, hf⟩ := hf
  dsimp only at hf
  refine V.callV0q (pc := 2) C hyX8_kindAt wd_537 (mX8_kindAt (r := z2) (g' := g3) K.2.1 E (kS K) h4) rfl rfl rfl (oX8_kindAt h4) ⟨Nat.le_of_ble_eq_true rfl, Nat.le_of_ble_eq_true rfl⟩ (Nat.le_of_ble_eq_true rfl) dX8_escape_2 ⟨Nat.zero_le _, Nat.zero_le _⟩ rfl ?_
  refine V.astoreQ (pc := 5) (L' := [(5, va_rf z2), (0, .ref a0), (1, .int a1), (2, .int a2), (3, .int a3), (4, .int a4)]) C (x := z2) dX8_escape_5 (by decide) rfl ?_
  refine V.aload_n (pc := 7) C dX8_escape_7 1 rfl ?_
  refine V.iload_n (pc := 8) C dX8_escape_8 2 rfl ?_
  replace hf := ob_some hf
  obtain ⟨⟨z6, g7⟩, h8, hf⟩ := hf
  dsimp only at hf
  refine V.callV0q (pc := 9) C hyX8_marchAt wd_549 (mX8_marchAt (r := z6) (g' := g7) K.2.1 E (kS K) h8) rfl rfl rfl (oX8_marchAt h8) ⟨Nat.le_of_ble_eq_true rfl, Nat.le_of_ble_eq_true rfl⟩ (Nat.le_of_ble_eq_true rfl) dX8_escape_9 ⟨Nat.zero_le _, Nat.zero_le _⟩ rfl ?_
  refine V.astoreQ (pc := 12) (L' := [(6, va_rf z6), (5, va_rf z2), (0, .ref a0), (1, .int a1), (2, .int a2), (3, .int a3), (4, .int a4)]) C (x := z6) dX8_escape_12 (by decide) (by cases z2 <;> rfl) ?_
  refine V.aloadQ (pc := 14) C dX8_escape_14 1 rfl ?_
  rcases z2 with _ | p9
  · refine V.ifnullN (pc := 16) (t := 35) C dX8_escape_16 (by decide) ?_
    refine V.iconst (pc := 35) C dX8_escape_35 (v := (-1 : Int32)) (by decide) ?_
    obtain ⟨f1, f2⟩ := fin2 hf
    clear hf
    subst f1
    subst f2
    exact V.iret (pc := 36) C rfl dX8_escape_36
  refine V.ifnull (pc := 16) C dX8_escape_16 ?_
  refine V.aloadQ (pc := 19) C dX8_escape_19 0 rfl ?_
  rcases z6 with _ | p10
  · refine V.ifnullN (pc := 21) (t := 35) C dX8_escape_21 (by decide) ?_
    refine V.iconst (pc := 35) C dX8_escape_35 (v := (-1 : Int32)) (by decide) ?_
    obtain ⟨f1, f2⟩ := fin2 hf
    clear hf
    subst f1
    subst f2
    exact V.iret (pc := 36) C rfl dX8_escape_36
  refine V.ifnull (pc := 21) C dX8_escape_21 ?_
  refine V.iload (pc := 24) C dX8_escape_24 6 rfl ?_
  refine V.if_lt (pc := 26) (t := 35) C dX8_escape_26 (by decide) (fun c11 => ?_) (fun c11 => ?_)
  · replace hf := ite_t c11 hf
    refine V.iconst (pc := 35) C dX8_escape_35 (v := (-1 : Int32)) (by decide) ?_
    obtain ⟨f1, f2⟩ := fin2 hf
    clear hf
    subst f1
    subst f2
    exact V.iret (pc := 36) C rfl dX8_escape_36
  replace hf := ite_f c11 hf
  refine V.iload (pc := 29) C dX8_escape_29 6 rfl ?_
  refine V.iconst (pc := 31) C dX8_escape_31 (v := (3 : Int32)) (by decide) ?_
  refine V.icmp_le (pc := 32) (t := 37) C dX8_escape_32 (by decide) (fun c12 => ?_) (fun c12 => ?_)
  · replace hf := ite_t c12 hf
    refine V.aload_n (pc := 37) C dX8_escape_37 2 rfl ?_
    refine V.iload_n (pc := 38) C dX8_escape_38 3 rfl ?_
    refine V.iload_n (pc := 39) C dX8_escape_39 4 rfl ?_
    replace hf := ob_some hf
    obtain ⟨q13, h14, hf⟩ := hf
    refine V.callV0i (pc := 40) C hyX8_bothOrders wd_574 (mX8_bothOrders (r := q13.1) (g' := q13.2) K.2.1 E (kS K) h14) rfl rfl rfl (oX8_bothOrders h14) ⟨Nat.le_of_ble_eq_true rfl, Nat.le_of_ble_eq_true rfl⟩ (Nat.le_of_ble_eq_true rfl) dX8_escape_40 ⟨Nat.zero_le _, Nat.zero_le _⟩ rfl ?_
    refine V.istore (pc := 43) (L' := [(7, .int q13.1), (6, .ref p10), (5, .ref p9), (0, .ref a0), (1, .int a1), (2, .int a2), (3, .int a3), (4, .int a4)]) C dX8_escape_43 (by decide) rfl ?_
    refine V.iconst (pc := 45) C dX8_escape_45 (v := (0 : Int32)) (by decide) ?_
    refine V.istore (pc := 46) (L' := [(8, .int (0 : Int32)), (7, .int q13.1), (6, .ref p10), (5, .ref p9), (0, .ref a0), (1, .int a1), (2, .int a2), (3, .int a3), (4, .int a4)]) C dX8_escape_46 (by decide) rfl ?_
    refine V.sub (L' := [(0, .ref a0), (3, .int a3), (4, .int a4), (5, .ref p9), (6, .ref p10), (7, .int q13.1), (8, .int (0 : Int32))]) [4, 7, 8, 3, 2, 1, 0] rfl ?_
    exact bX8_escape_48 C  _ _ _ _ _ _ _ _ _ hf
  replace hf := ite_f c12 hf
  refine V.iconst (pc := 35) C dX8_escape_35 (v := (-1 : Int32)) (by decide) ?_
  obtain ⟨f1, f2⟩ := fin2 hf
  clear hf
  subst f1
  subst f2
  exact V.iret (pc := 36) C rfl dX8_escape_36
theorem dX8_onTwo_0 : decode cX8_onTwo 0 = .ok (.aload_n 0, 1) := by decide +kernel
theorem dX8_onTwo_1 : decode cX8_onTwo 1 = .ok (.iload_n 2, 1) := by decide +kernel
theorem dX8_onTwo_2 : decode cX8_onTwo 2 = .ok (.invokevirtual 94, 3) := by decide +kernel
theorem dX8_onTwo_5 : decode cX8_onTwo 5 = .ok (.ifnull 11, 3) := by decide +kernel
theorem dX8_onTwo_8 : decode cX8_onTwo 8 = .ok (.aload_n 0, 1) := by decide +kernel
theorem dX8_onTwo_9 : decode cX8_onTwo 9 = .ok (.iload_n 1, 1) := by decide +kernel
theorem dX8_onTwo_10 : decode cX8_onTwo 10 = .ok (.invokevirtual 112, 3) := by decide +kernel
theorem dX8_onTwo_13 : decode cX8_onTwo 13 = .ok (.ifnonnull 5, 3) := by decide +kernel
theorem dX8_onTwo_16 : decode cX8_onTwo 16 = .ok (.iconst (-1), 1) := by decide +kernel
theorem dX8_onTwo_17 : decode cX8_onTwo 17 = .ok (.ireturn, 1) := by decide +kernel
theorem dX8_onTwo_18 : decode cX8_onTwo 18 = .ok (.aload_n 0, 1) := by decide +kernel
theorem dX8_onTwo_19 : decode cX8_onTwo 19 = .ok (.iload_n 1, 1) := by decide +kernel
theorem dX8_onTwo_20 : decode cX8_onTwo 20 = .ok (.iload_n 2, 1) := by decide +kernel
theorem dX8_onTwo_21 : decode cX8_onTwo 21 = .ok (.invokevirtual 146, 3) := by decide +kernel
theorem dX8_onTwo_24 : decode cX8_onTwo 24 = .ok (.ireturn, 1) := by decide +kernel
def fX8_onTwo (g : PH) (a0 : Nat) (a1 : Int32) (a2 : Int32) : Option (Int32 × PH) :=
  okb (isO g a0 8) ((fX8_kindAt g a0 a2).bind fun (z2, g3) =>
  (z2.elim (some ((-1 : Int32), g3)) (fun p5 =>
  (fX8_marchAt g3 a0 a1).bind fun (z7, g8) =>
  (z7.elim (some ((-1 : Int32), g8)) (fun p10 =>
  (fX8_bothOrders g8 a0 a1 a2).bind fun q11 =>
  (some (q11.1, q11.2)))))))
theorem oX8_onTwo {g : PH} {a0 : Nat} {a1 : Int32} {a2 : Int32} {q : (Int32 × PH)} (h : fX8_onTwo g a0 a1 a2 = some q) : isO g a0 8 = true := by unfold fX8_onTwo at h; exact (okb_some h).1
theorem hyX8_onTwo : hMet yX8_onTwo RX8 cX8_onTwo 3 (some .int) 2 := ⟨wd_666, wd_664, wd_665, wd_1, rfl, by decide +kernel, by decide +kernel, by decide +kernel⟩
set_option maxHeartbeats 4000000 in
set_option maxRecDepth 100000 in
theorem mX8_onTwo (l : Launch) (E : HE) (sz : Nat) {g g' : PH} {a0 : Nat} {a1 : Int32} {a2 : Int32} {r : Int32} (hf : fX8_onTwo g a0 a1 a2 = some (r, g')) : hM l E yX8_onTwo cX8_onTwo 3 (some .int) 6 156 0 0 sz g [.ref a0, .int a1, .int a2] (some (.int r)) g' := by
  refine hM.of (by decide) (Nat.le_of_ble_eq_true rfl) (fun K hl C hin hsz => ?_)
  subst hl
  subst hsz
  have C : VC K E 3 cX8_onTwo RX8 (some .int) := C
  unfold fX8_onTwo at hf
  replace hf := okb_some hf
  obtain ⟨ho, hf⟩ := hf
  refine V.start (L' := [(0, .ref a0), (1, .int a1), (2, .int a2)]) rfl ?_
  refine V.aload_n (pc := 0) C dX8_onTwo_0 0 rfl ?_
  refine V.iload_n (pc := 1) C dX8_onTwo_1 2 rfl ?_
  replace hf := ob_some hf
  obtain ⟨⟨z2, g3⟩, h4, hf⟩ := hf
  dsimp only at hf
  refine V.callV0q (pc := 2) C hyX8_kindAt wd_537 (mX8_kindAt (r := z2) (g' := g3) K.2.1 E (kS K) h4) rfl rfl rfl (oX8_kindAt h4) ⟨Nat.le_of_ble_eq_true rfl, Nat.le_of_ble_eq_true rfl⟩ (Nat.le_of_ble_eq_true rfl) dX8_onTwo_2 ⟨Nat.zero_le _, Nat.zero_le _⟩ rfl ?_
  rcases z2 with _ | p5
  · refine V.ifnullN (pc := 5) (t := 16) C dX8_onTwo_5 (by decide) ?_
    refine V.iconst (pc := 16) C dX8_onTwo_16 (v := (-1 : Int32)) (by decide) ?_
    obtain ⟨f1, f2⟩ := fin2 hf
    clear hf
    subst f1
    subst f2
    exact V.iret (pc := 17) C rfl dX8_onTwo_17
  refine V.ifnull (pc := 5) C dX8_onTwo_5 ?_
  refine V.aload_n (pc := 8) C dX8_onTwo_8 0 rfl ?_
  refine V.iload_n (pc := 9) C dX8_onTwo_9 1 rfl ?_
  replace hf := ob_some hf
  obtain ⟨⟨z7, g8⟩, h9, hf⟩ := hf
  dsimp only at hf
  refine V.callV0q (pc := 10) C hyX8_marchAt wd_549 (mX8_marchAt (r := z7) (g' := g8) K.2.1 E (kS K) h9) rfl rfl rfl (oX8_marchAt h9) ⟨Nat.le_of_ble_eq_true rfl, Nat.le_of_ble_eq_true rfl⟩ (Nat.le_of_ble_eq_true rfl) dX8_onTwo_10 ⟨Nat.zero_le _, Nat.zero_le _⟩ rfl ?_
  rcases z7 with _ | p10
  · refine V.ifnonnullN (pc := 13) C dX8_onTwo_13 ?_
    refine V.iconst (pc := 16) C dX8_onTwo_16 (v := (-1 : Int32)) (by decide) ?_
    obtain ⟨f1, f2⟩ := fin2 hf
    clear hf
    subst f1
    subst f2
    exact V.iret (pc := 17) C rfl dX8_onTwo_17
  refine V.ifnonnull (pc := 13) (t := 18) C dX8_onTwo_13 (by decide) ?_
  refine V.aload_n (pc := 18) C dX8_onTwo_18 0 rfl ?_
  refine V.iload_n (pc := 19) C dX8_onTwo_19 1 rfl ?_
  refine V.iload_n (pc := 20) C dX8_onTwo_20 2 rfl ?_
  replace hf := ob_some hf
  obtain ⟨q11, h12, hf⟩ := hf
  refine V.callV0i (pc := 21) C hyX8_bothOrders wd_574 (mX8_bothOrders (r := q11.1) (g' := q11.2) K.2.1 E (kS K) h12) rfl rfl rfl (oX8_bothOrders h12) ⟨Nat.le_of_ble_eq_true rfl, Nat.le_of_ble_eq_true rfl⟩ (Nat.le_of_ble_eq_true rfl) dX8_onTwo_21 ⟨Nat.zero_le _, Nat.zero_le _⟩ rfl ?_
  obtain ⟨f1, f2⟩ := fin2 hf
  clear hf
  subst f1
  subst f2
  exact V.iret (pc := 24) C rfl dX8_onTwo_24
