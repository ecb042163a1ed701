theorem dX9_leastOf_0 : decode cX9_leastOf 0 = .ok (.iload_n 1, 1) := by decide +kernel
theorem dX9_leastOf_1 : decode cX9_leastOf 1 = .ok (.ifCond .ne 5, 3) := by decide +kernel
theorem dX9_leastOf_4 : decode cX9_leastOf 4 = .ok (.iconst 0, 1) := by decide +kernel
theorem dX9_leastOf_5 : decode cX9_leastOf 5 = .ok (.ireturn, 1) := by decide +kernel
theorem dX9_leastOf_6 : decode cX9_leastOf 6 = .ok (.aload_n 0, 1) := by decide +kernel
theorem dX9_leastOf_7 : decode cX9_leastOf 7 = .ok (.invokevirtual 285, 3) := by decide +kernel
theorem dX9_leastOf_10 : decode cX9_leastOf 10 = .ok (.istore_n 2, 1) := by decide +kernel
theorem dX9_leastOf_11 : decode cX9_leastOf 11 = .ok (.aload_n 0, 1) := by decide +kernel
theorem dX9_leastOf_12 : decode cX9_leastOf 12 = .ok (.iload_n 1, 1) := by decide +kernel
theorem dX9_leastOf_13 : decode cX9_leastOf 13 = .ok (.invokevirtual 341, 3) := by decide +kernel
theorem dX9_leastOf_16 : decode cX9_leastOf 16 = .ok (.istore_n 3, 1) := by decide +kernel
theorem dX9_leastOf_17 : decode cX9_leastOf 17 = .ok (.aload_n 0, 1) := by decide +kernel
theorem dX9_leastOf_18 : decode cX9_leastOf 18 = .ok (.iload_n 2, 1) := by decide +kernel
theorem dX9_leastOf_19 : decode cX9_leastOf 19 = .ok (.putfield 180, 3) := by decide +kernel
theorem dX9_leastOf_22 : decode cX9_leastOf 22 = .ok (.aload_n 0, 1) := by decide +kernel
theorem dX9_leastOf_23 : decode cX9_leastOf 23 = .ok (.invokevirtual 282, 3) := by decide +kernel
theorem dX9_leastOf_26 : decode cX9_leastOf 26 = .ok (.iload_n 3, 1) := by decide +kernel
theorem dX9_leastOf_27 : decode cX9_leastOf 27 = .ok (.ireturn, 1) := by decide +kernel
def fX9_leastOf (g : PH) (a0 : Nat) (a1 : Int32) : Option (Int32 × PH) :=
  okb (isO g a0 9) (if a1 = 0 then (some ((0 : Int32), g)) else
  ((fX9_beginsTwo g a0).bind fun q2 =>
  ((fX9_searches q2.2 a0 a1).bind fun q4 =>
  ((putV q4.2 a0 9 15 (.int q2.1)).bind fun g6 =>
  ((fX9_laysBack g6 a0).bind fun q8 =>
  (some (q4.1, q8.2)))))))
theorem oX9_leastOf {g : PH} {a0 : Nat} {a1 : Int32} {q : (Int32 × PH)} (h : fX9_leastOf g a0 a1 = some q) : isO g a0 9 = true := by unfold fX9_leastOf at h; exact (okb_some h).1
theorem hyX9_leastOf : hMet yX9_leastOf RX9 cX9_leastOf 4 (some .int) 1 := ⟨wd_1420, wd_1419, ws_95, wd_7, rfl, by decide +kernel, by decide +kernel, by decide +kernel⟩
set_option maxHeartbeats 4000000 in
set_option maxRecDepth 100000 in
theorem mX9_leastOf (l : Launch) (E : HE) (sz : Nat) {g g' : PH} {a0 : Nat} {a1 : Int32} {r : Int32} (hf : fX9_leastOf g a0 a1 = some (r, g')) : hM l E yX9_leastOf cX9_leastOf 4 (some .int) 10 248 0 0 sz g [.ref a0, .int a1] (some (.int r)) g' := by
  refine hM.of (by decide) (Nat.le_of_ble_eq_true rfl) (fun K hl C hin hsz => ?_)
  subst hl
  subst hsz
  have C : VC K E 4 cX9_leastOf RX9 (some .int) := C
  unfold fX9_leastOf at hf
  replace hf := okb_some hf
  obtain ⟨ho, hf⟩ := hf
  refine V.start (L' := [(0, .ref a0), (1, .int a1)]) rfl ?_
  refine V.iload_n (pc := 0) C dX9_leastOf_0 1 rfl ?_
  refine V.if_ne (pc := 1) (t := 6) C dX9_leastOf_1 (by decide) (fun c1 => ?_) (fun c1 => ?_)
  · replace hf := ite_f c1 hf
    refine V.aload_n (pc := 6) C dX9_leastOf_6 0 rfl ?_
    replace hf := ob_some hf
    obtain ⟨q2, h3, hf⟩ := hf
    refine V.callV0i (pc := 7) C hyX9_beginsTwo wd_1400 (mX9_beginsTwo (r := q2.1) (g' := q2.2) K.2.1 E (kS K) h3) rfl rfl rfl (oX9_beginsTwo h3) ⟨Nat.le_of_ble_eq_true rfl, Nat.le_of_ble_eq_true rfl⟩ (Nat.le_of_ble_eq_true rfl) dX9_leastOf_7 ⟨Nat.zero_le _, Nat.zero_le _⟩ rfl ?_
    refine V.istore_n (pc := 10) (L' := [(2, .int q2.1), (0, .ref a0), (1, .int a1)]) C dX9_leastOf_10 (by decide) rfl ?_
    refine V.aload_n (pc := 11) C dX9_leastOf_11 1 rfl ?_
    refine V.iload_n (pc := 12) C dX9_leastOf_12 2 rfl ?_
    replace hf := ob_some hf
    obtain ⟨q4, h5, hf⟩ := hf
    refine V.callV0i (pc := 13) C hyX9_searches wd_1421 (mX9_searches (r := q4.1) (g' := q4.2) K.2.1 E (kS K) h5) rfl rfl rfl (oX9_searches h5) ⟨Nat.le_of_ble_eq_true rfl, Nat.le_of_ble_eq_true rfl⟩ (Nat.le_of_ble_eq_true rfl) dX9_leastOf_13 ⟨Nat.zero_le _, Nat.zero_le _⟩ rfl ?_
    refine V.istore_n (pc := 16) (L' := [(3, .int q4.1), (2, .int q2.1), (0, .ref a0), (1, .int a1)]) C dX9_leastOf_16 (by decide) rfl ?_
    refine V.aload_n (pc := 17) C dX9_leastOf_17 2 rfl ?_
    refine V.iload_n (pc := 18) C dX9_leastOf_18 1 rfl ?_
    replace hf := ob_some hf
    obtain ⟨g6, h7, hf⟩ := hf
    refine V.putX (pc := 19) C kX9 (k := 15) (by decide) wd_1065 rfl rfl rfl h7 dX9_leastOf_19 ?_
    refine V.aload_n (pc := 22) C dX9_leastOf_22 2 rfl ?_
    replace hf := ob_some hf
    obtain ⟨q8, h9, hf⟩ := hf
    refine V.callV0v (pc := 23) C hyX9_laysBack wd_1388 (mX9_laysBack (r := q8.1) (g' := q8.2) K.2.1 E (kS K) h9) rfl rfl rfl (oX9_laysBack h9) ⟨Nat.le_of_ble_eq_true rfl, Nat.le_of_ble_eq_true rfl⟩ (Nat.le_of_ble_eq_true rfl) dX9_leastOf_23 ⟨Nat.zero_le _, Nat.zero_le _⟩ rfl ?_
    refine V.iload_n (pc := 26) C dX9_leastOf_26 0 rfl ?_
    obtain ⟨f1, f2⟩ := fin2 hf
    clear hf
    subst f1
    subst f2
    exact V.iret (pc := 27) C rfl dX9_leastOf_27
  replace hf := ite_t c1 hf
  refine V.iconst (pc := 4) C dX9_leastOf_4 (v := (0 : Int32)) (by decide) ?_
  obtain ⟨f1, f2⟩ := fin2 hf
  clear hf
  subst f1
  subst f2
  exact V.iret (pc := 5) C rfl dX9_leastOf_5
theorem dX9_least_0 : decode cX9_least 0 = .ok (.aload_n 0, 1) := by decide +kernel
theorem dX9_least_1 : decode cX9_least 1 = .ok (.iload_n 1, 1) := by decide +kernel
theorem dX9_least_2 : decode cX9_least 2 = .ok (.invokevirtual 344, 3) := by decide +kernel
theorem dX9_least_5 : decode cX9_least 5 = .ok (.ifCond .eq 11, 3) := by decide +kernel
theorem dX9_least_8 : decode cX9_least 8 = .ok (.aload_n 0, 1) := by decide +kernel
theorem dX9_least_9 : decode cX9_least 9 = .ok (.iload_n 1, 1) := by decide +kernel
theorem dX9_least_10 : decode cX9_least 10 = .ok (.invokevirtual 347, 3) := by decide +kernel
theorem dX9_least_13 : decode cX9_least 13 = .ok (.goto 4, 3) := by decide +kernel
theorem dX9_least_16 : decode cX9_least 16 = .ok (.iconst (-1), 1) := by decide +kernel
theorem dX9_least_17 : decode cX9_least 17 = .ok (.ireturn, 1) := by decide +kernel
def fX9_least (g : PH) (a0 : Nat) (a1 : Int32) : Option (Int32 × PH) :=
  okb (isO g a0 9) ((fX9_areKinds g a0 a1).bind fun q1 =>
  (if q1.1 = 0 then (some ((-1 : Int32), q1.2)) else
  ((fX9_leastOf q1.2 a0 a1).bind fun q4 =>
  (some (q4.1, q4.2)))))
theorem oX9_least {g : PH} {a0 : Nat} {a1 : Int32} {q : (Int32 × PH)} (h : fX9_least g a0 a1 = some q) : isO g a0 9 = true := by unfold fX9_least at h; exact (okb_some h).1
theorem hyX9_least : hMet yX9_least RX9 cX9_least 2 (some .int) 1 := ⟨wd_1412, wd_1410, wd_1411, wd_7, rfl, by decide +kernel, by decide +kernel, by decide +kernel⟩
set_option maxHeartbeats 4000000 in
set_option maxRecDepth 100000 in
theorem mX9_least (l : Launch) (E : HE) (sz : Nat) {g g' : PH} {a0 : Nat} {a1 : Int32} {r : Int32} (hf : fX9_least g a0 a1 = some (r, g')) : hM l E yX9_least cX9_least 2 (some .int) 11 271 0 0 sz g [.ref a0, .int a1] (some (.int r)) g' := by
  refine hM.of (by decide) (Nat.le_of_ble_eq_true rfl) (fun K hl C hin hsz => ?_)
  subst hl
  subst hsz
  have C : VC K E 2 cX9_least RX9 (some .int) := C
  unfold fX9_least at hf
  replace hf := okb_some hf
  obtain ⟨ho, hf⟩ := hf
  refine V.start (L' := [(0, .ref a0), (1, .int a1)]) rfl ?_
  refine V.aload_n (pc := 0) C dX9_least_0 0 rfl ?_
  refine V.iload_n (pc := 1) C dX9_least_1 1 rfl ?_
  replace hf := ob_some hf
  obtain ⟨q1, h2, hf⟩ := hf
  refine V.callV0i (pc := 2) C hyX9_areKinds wd_1413 (mX9_areKinds (r := q1.1) (g' := q1.2) K.2.1 E (kS K) h2) rfl rfl rfl (oX9_areKinds h2) ⟨Nat.le_of_ble_eq_true rfl, Nat.le_of_ble_eq_true rfl⟩ (Nat.le_of_ble_eq_true rfl) dX9_least_2 ⟨Nat.zero_le _, Nat.zero_le _⟩ rfl ?_
  refine V.if_eq (pc := 5) (t := 16) C dX9_least_5 (by decide) (fun c3 => ?_) (fun c3 => ?_)
  · replace hf := ite_t c3 hf
    refine V.iconst (pc := 16) C dX9_least_16 (v := (-1 : Int32)) (by decide) ?_
    obtain ⟨f1, f2⟩ := fin2 hf
    clear hf
    subst f1
    subst f2
    exact V.iret (pc := 17) C rfl dX9_least_17
  replace hf := ite_f c3 hf
  refine V.aload_n (pc := 8) C dX9_least_8 0 rfl ?_
  refine V.iload_n (pc := 9) C dX9_least_9 1 rfl ?_
  replace hf := ob_some hf
  obtain ⟨q4, h5, hf⟩ := hf
  refine V.callV0i (pc := 10) C hyX9_leastOf wd_1417 (mX9_leastOf (r := q4.1) (g' := q4.2) K.2.1 E (kS K) h5) rfl rfl rfl (oX9_leastOf h5) ⟨Nat.le_of_ble_eq_true rfl, Nat.le_of_ble_eq_true rfl⟩ (Nat.le_of_ble_eq_true rfl) dX9_least_10 ⟨Nat.zero_le _, Nat.zero_le _⟩ rfl ?_
  refine V.goto (pc := 13) (t := 17) C dX9_least_13 (by decide) ?_
  obtain ⟨f1, f2⟩ := fin2 hf
  clear hf
  subst f1
  subst f2
  exact V.iret (pc := 17) C rfl dX9_least_17
theorem dX9_walkedOp_0 : decode cX9_walkedOp 0 = .ok (.aload_n 0, 1) := by decide +kernel
theorem dX9_walkedOp_1 : decode cX9_walkedOp 1 = .ok (.getfield 54, 3) := by decide +kernel
theorem dX9_walkedOp_4 : decode cX9_walkedOp 4 = .ok (.iload_n 1, 1) := by decide +kernel
theorem dX9_walkedOp_5 : decode cX9_walkedOp 5 = .ok (.iaload, 1) := by decide +kernel
theorem dX9_walkedOp_6 : decode cX9_walkedOp 6 = .ok (.bipush 100, 2) := by decide +kernel
theorem dX9_walkedOp_8 : decode cX9_walkedOp 8 = .ok (.irem, 1) := by decide +kernel
theorem dX9_walkedOp_9 : decode cX9_walkedOp 9 = .ok (.bipush 27, 2) := by decide +kernel
theorem dX9_walkedOp_11 : decode cX9_walkedOp 11 = .ok (.idiv, 1) := by decide +kernel
theorem dX9_walkedOp_12 : decode cX9_walkedOp 12 = .ok (.istore 4, 2) := by decide +kernel
theorem dX9_walkedOp_14 : decode cX9_walkedOp 14 = .ok (.aload_n 0, 1) := by decide +kernel
theorem dX9_walkedOp_15 : decode cX9_walkedOp 15 = .ok (.getfield 54, 3) := by decide +kernel
theorem dX9_walkedOp_18 : decode cX9_walkedOp 18 = .ok (.iload_n 1, 1) := by decide +kernel
theorem dX9_walkedOp_19 : decode cX9_walkedOp 19 = .ok (.iaload, 1) := by decide +kernel
theorem dX9_walkedOp_20 : decode cX9_walkedOp 20 = .ok (.bipush 100, 2) := by decide +kernel
theorem dX9_walkedOp_22 : decode cX9_walkedOp 22 = .ok (.irem, 1) := by decide +kernel
theorem dX9_walkedOp_23 : decode cX9_walkedOp 23 = .ok (.bipush 27, 2) := by decide +kernel
theorem dX9_walkedOp_25 : decode cX9_walkedOp 25 = .ok (.iload 4, 2) := by decide +kernel
theorem dX9_walkedOp_27 : decode cX9_walkedOp 27 = .ok (.imul, 1) := by decide +kernel
theorem dX9_walkedOp_28 : decode cX9_walkedOp 28 = .ok (.isub, 1) := by decide +kernel
theorem dX9_walkedOp_29 : decode cX9_walkedOp 29 = .ok (.istore 5, 2) := by decide +kernel
theorem dX9_walkedOp_31 : decode cX9_walkedOp 31 = .ok (.aload_n 0, 1) := by decide +kernel
theorem dX9_walkedOp_32 : decode cX9_walkedOp 32 = .ok (.aload_n 0, 1) := by decide +kernel
theorem dX9_walkedOp_33 : decode cX9_walkedOp 33 = .ok (.getfield 51, 3) := by decide +kernel
theorem dX9_walkedOp_36 : decode cX9_walkedOp 36 = .ok (.iload_n 1, 1) := by decide +kernel
theorem dX9_walkedOp_37 : decode cX9_walkedOp 37 = .ok (.iaload, 1) := by decide +kernel
theorem dX9_walkedOp_38 : decode cX9_walkedOp 38 = .ok (.iconst 0, 1) := by decide +kernel
theorem dX9_walkedOp_39 : decode cX9_walkedOp 39 = .ok (.invokevirtual 316, 3) := by decide +kernel
theorem dX9_walkedOp_42 : decode cX9_walkedOp 42 = .ok (.istore 6, 2) := by decide +kernel
theorem dX9_walkedOp_44 : decode cX9_walkedOp 44 = .ok (.iconst 0, 1) := by decide +kernel
theorem dX9_walkedOp_45 : decode cX9_walkedOp 45 = .ok (.istore 7, 2) := by decide +kernel
theorem dX9_walkedOp_47 : decode cX9_walkedOp 47 = .ok (.iload 7, 2) := by decide +kernel
theorem dX9_walkedOp_49 : decode cX9_walkedOp 49 = .ok (.iload_n 3, 1) := by decide +kernel
theorem dX9_walkedOp_50 : decode cX9_walkedOp 50 = .ok (.if_icmp .ge 39, 3) := by decide +kernel
theorem dX9_walkedOp_53 : decode cX9_walkedOp 53 = .ok (.aload_n 0, 1) := by decide +kernel
theorem dX9_walkedOp_54 : decode cX9_walkedOp 54 = .ok (.iload 5, 2) := by decide +kernel
theorem dX9_walkedOp_56 : decode cX9_walkedOp 56 = .ok (.iload_n 2, 1) := by decide +kernel
theorem dX9_walkedOp_57 : decode cX9_walkedOp 57 = .ok (.iload 7, 2) := by decide +kernel
theorem dX9_walkedOp_59 : decode cX9_walkedOp 59 = .ok (.invokevirtual 313, 3) := by decide +kernel
theorem dX9_walkedOp_62 : decode cX9_walkedOp 62 = .ok (.ifCond .ne 8, 3) := by decide +kernel
theorem dX9_walkedOp_65 : decode cX9_walkedOp 65 = .ok (.iload 6, 2) := by decide +kernel
theorem dX9_walkedOp_67 : decode cX9_walkedOp 67 = .ok (.goto 14, 3) := by decide +kernel
theorem dX9_walkedOp_70 : decode cX9_walkedOp 70 = .ok (.aload_n 0, 1) := by decide +kernel
theorem dX9_walkedOp_71 : decode cX9_walkedOp 71 = .ok (.iload 5, 2) := by decide +kernel
theorem dX9_walkedOp_73 : decode cX9_walkedOp 73 = .ok (.iload_n 2, 1) := by decide +kernel
theorem dX9_walkedOp_74 : decode cX9_walkedOp 74 = .ok (.iload 7, 2) := by decide +kernel
theorem dX9_walkedOp_76 : decode cX9_walkedOp 76 = .ok (.invokevirtual 313, 3) := by decide +kernel
theorem dX9_walkedOp_79 : decode cX9_walkedOp 79 = .ok (.iconst 1, 1) := by decide +kernel
theorem dX9_walkedOp_80 : decode cX9_walkedOp 80 = .ok (.isub, 1) := by decide +kernel
theorem dX9_walkedOp_81 : decode cX9_walkedOp 81 = .ok (.istore 6, 2) := by decide +kernel
theorem dX9_walkedOp_83 : decode cX9_walkedOp 83 = .ok (.iinc 7 1, 3) := by decide +kernel
theorem dX9_walkedOp_86 : decode cX9_walkedOp 86 = .ok (.goto (-39), 3) := by decide +kernel
theorem dX9_walkedOp_89 : decode cX9_walkedOp 89 = .ok (.aload_n 0, 1) := by decide +kernel
theorem dX9_walkedOp_90 : decode cX9_walkedOp 90 = .ok (.iload 5, 2) := by decide +kernel
theorem dX9_walkedOp_92 : decode cX9_walkedOp 92 = .ok (.iload_n 2, 1) := by decide +kernel
theorem dX9_walkedOp_93 : decode cX9_walkedOp 93 = .ok (.iload_n 3, 1) := by decide +kernel
theorem dX9_walkedOp_94 : decode cX9_walkedOp 94 = .ok (.invokevirtual 313, 3) := by decide +kernel
theorem dX9_walkedOp_97 : decode cX9_walkedOp 97 = .ok (.istore 7, 2) := by decide +kernel
theorem dX9_walkedOp_99 : decode cX9_walkedOp 99 = .ok (.bipush 10, 2) := by decide +kernel
theorem dX9_walkedOp_101 : decode cX9_walkedOp 101 = .ok (.iload 4, 2) := by decide +kernel
theorem dX9_walkedOp_103 : decode cX9_walkedOp 103 = .ok (.imul, 1) := by decide +kernel
theorem dX9_walkedOp_104 : decode cX9_walkedOp 104 = .ok (.iload 7, 2) := by decide +kernel
theorem dX9_walkedOp_106 : decode cX9_walkedOp 106 = .ok (.ifCond .ne 8, 3) := by decide +kernel
theorem dX9_walkedOp_109 : decode cX9_walkedOp 109 = .ok (.iload 6, 2) := by decide +kernel
theorem dX9_walkedOp_111 : decode cX9_walkedOp 111 = .ok (.goto 7, 3) := by decide +kernel
theorem dX9_walkedOp_114 : decode cX9_walkedOp 114 = .ok (.iload 7, 2) := by decide +kernel
theorem dX9_walkedOp_116 : decode cX9_walkedOp 116 = .ok (.iconst 1, 1) := by decide +kernel
theorem dX9_walkedOp_117 : decode cX9_walkedOp 117 = .ok (.iadd, 1) := by decide +kernel
theorem dX9_walkedOp_118 : decode cX9_walkedOp 118 = .ok (.iadd, 1) := by decide +kernel
theorem dX9_walkedOp_119 : decode cX9_walkedOp 119 = .ok (.ireturn, 1) := by decide +kernel
def fX9_walkedOp_81 (k47 : PH → Nat → Int32 → Int32 → Int32 → Int32 → Int32 → Int32 → Option (Int32 × PH)) (g : PH) (v0 : Nat) (v2 : Int32) (v3 : Int32) (v4 : Int32) (v5 : Int32) (v7 : Int32) (s0 : Int32) : Option (Int32 × PH) :=
  k47 g v0 v2 v3 v4 v5 s0 (v7 + (1 : Int32))
set_option maxHeartbeats 4000000 in
set_option maxRecDepth 100000 in
theorem bX9_walkedOp_81 {K : HK} {E : HE} {r : Int32} {g' : PH} {k47 : PH → Nat → Int32 → Int32 → Int32 → Int32 → Int32 → Int32 → Option (Int32 × PH)} (C : VC K E 8 cX9_walkedOp RX9 (some .int)) (hk47 : ∀ (g : PH) (v0 : Nat) (v2 : Int32) (v3 : Int32) (v4 : Int32) (v5 : Int32) (v6 : Int32) (v7 : Int32), k47 g v0 v2 v3 v4 v5 v6 v7 = some (r, g') → V K E (hRm 1 25 0 0) 8 (hZ K E (some (.int r)) g' 0 0) 0 0 (kS K) g 47 [(0, .ref v0), (2, .int v2), (3, .int v3), (4, .int v4), (5, .int v5), (6, .int v6), (7, .int v7)] []) {g : PH} {v0 : Nat} {v2 : Int32} {v3 : Int32} {v4 : Int32} {v5 : Int32} {v7 : Int32} {s0 : Int32} (hf : fX9_walkedOp_81 k47 g v0 v2 v3 v4 v5 v7 s0 = some (r, g')) : V K E (hRm 1 25 0 0) 8 (hZ K E (some (.int r)) g' 0 0) 0 0 (kS K) g 81 [(0, .ref v0), (2, .int v2), (3, .int v3), (4, .int v4), (5, .int v5), (7, .int v7)] [.int s0] := by
  unfold fX9_walkedOp_81 at hf
  refine V.istore (pc := 81) (L' := [(6, .int s0), (0, .ref v0), (2, .int v2), (3, .int v3), (4, .int v4), (5, .int v5), (7, .int v7)]) C dX9_walkedOp_81 (by decide) rfl ?_
  refine V.iinc (pc := 83) (v := (v7 + (1 : Int32))) (L' := [(7, .int (v7 + (1 : Int32))), (6, .int s0), (0, .ref v0), (2, .int v2), (3, .int v3), (4, .int v4), (5, .int v5)]) C dX9_walkedOp_83 6 rfl rfl (by decide) rfl ?_
  refine V.goto (pc := 86) (t := 47) C dX9_walkedOp_86 (by decide) ?_
  refine V.sub (L' := [(0, .ref v0), (2, .int v2), (3, .int v3), (4, .int v4), (5, .int v5), (6, .int s0), (7, .int (v7 + (1 : Int32)))]) [2, 3, 4, 5, 6, 1, 0] rfl ?_
  exact hk47 _ _ _ _ _ _ _ _ hf
def fX9_walkedOp_47  : Nat → PH → Nat → Int32 → Int32 → Int32 → Int32 → Int32 → Int32 → Option (Int32 × PH)
  | 0, _, _, _, _, _, _, _, _ => none
  | n + 1, g, v0, v2, v3, v4, v5, v6, v7 =>
  if v3 ≤ v7 then ((fX9_stepOp g v0 v5 v2 v3).bind fun q2 =>
  (if q2.1 = 0 then (some ((((10 : Int32) * v4) + v6), q2.2)) else
  (some ((((10 : Int32) * v4) + (q2.1 + (1 : Int32))), q2.2)))) else
  ((fX9_stepOp g v0 v5 v2 v7).bind fun q5 =>
  (if q5.1 = 0 then (fX9_walkedOp_81 (fX9_walkedOp_47 n) q5.2 v0 v2 v3 v4 v5 v7 v6) else
  ((fX9_stepOp q5.2 v0 v5 v2 v7).bind fun q8 =>
  (fX9_walkedOp_81 (fX9_walkedOp_47 n) q8.2 v0 v2 v3 v4 v5 v7 (q8.1 - (1 : Int32))))))
set_option maxHeartbeats 4000000 in
set_option maxRecDepth 100000 in
theorem bX9_walkedOp_47 {K : HK} {E : HE} {r : Int32} {g' : PH}  (C : VC K E 8 cX9_walkedOp RX9 (some .int))  : ∀ (n : Nat) (g : PH) (v0 : Nat) (v2 : Int32) (v3 : Int32) (v4 : Int32) (v5 : Int32) (v6 : Int32) (v7 : Int32), fX9_walkedOp_47  n g v0 v2 v3 v4 v5 v6 v7 = some (r, g') → V K E (hRm 1 25 0 0) 8 (hZ K E (some (.int r)) g' 0 0) 0 0 (kS K) g 47 [(0, .ref v0), (2, .int v2), (3, .int v3), (4, .int v4), (5, .int v5), (6, .int v6), (7, .int v7)] [] := by
  intro n
  induction n with
  | zero =>
    intro g v0 v2 v3 v4 v5 v6 v7 hf
    rw [fX9_walkedOp_47] at hf
    cases hf
  | succ n ih =>
    intro g v0 v2 v3 v4 v5 v6 v7 hf
    rw [fX9_walkedOp_47] at hf
    refine V.iload (pc := 47) C dX9_walkedOp_47 6 rfl ?_
    refine V.iload_n (pc := 49) C dX9_walkedOp_49 2 rfl ?_
    refine V.icmp_ge (pc := 50) (t := 89) C dX9_walkedOp_50 (by decide) (fun c1 => ?_) (fun c1 => ?_)
    · replace hf := ite_t c1 hf
      refine V.aload_n (pc := 89) C dX9_walkedOp_89 0 rfl ?_
      refine V.iload (pc := 90) C dX9_walkedOp_90 4 rfl ?_
      refine V.iload_n (pc := 92) C dX9_walkedOp_92 1 rfl ?_
      refine V.iload_n (pc := 93) C dX9_walkedOp_93 2 rfl ?_
      replace hf := ob_some hf
      obtain ⟨q2, h3, hf⟩ := hf
      refine V.callV0i (pc := 94) C hyX9_stepOp wd_1460 (mX9_stepOp (r := q2.1) (g' := q2.2) K.2.1 E (kS K) h3) rfl rfl rfl (oX9_stepOp h3) ⟨Nat.le_of_ble_eq_true rfl, Nat.le_of_ble_eq_true rfl⟩ (Nat.le_of_ble_eq_true rfl) dX9_walkedOp_94 ⟨Nat.zero_le _, Nat.zero_le _⟩ rfl ?_
      refine V.istore (pc := 97) (L' := [(7, .int q2.1), (0, .ref v0), (2, .int v2), (3, .int v3), (4, .int v4), (5, .int v5), (6, .int v6)]) C dX9_walkedOp_97 (by decide) rfl ?_
      refine V.bipush (pc := 99) C dX9_walkedOp_99 (v := (10 : Int32)) (by decide) ?_
      refine V.iload (pc := 101) C dX9_walkedOp_101 4 rfl ?_
      refine V.imul (pc := 103) C dX9_walkedOp_103 ?_
      refine V.iload (pc := 104) C dX9_walkedOp_104 0 rfl ?_
      refine V.if_ne (pc := 106) (t := 114) C dX9_walkedOp_106 (by decide) (fun c4 => ?_) (fun c4 => ?_)
      · replace hf := ite_f c4 hf
        refine V.iload (pc := 114) C dX9_walkedOp_114 0 rfl ?_
        refine V.iconst (pc := 116) C dX9_walkedOp_116 (v := (1 : Int32)) (by decide) ?_
        refine V.iadd (pc := 117) C dX9_walkedOp_117 ?_
        refine V.iadd (pc := 118) C dX9_walkedOp_118 ?_
        obtain ⟨f1, f2⟩ := fin2 hf
        clear hf
        subst f1
        subst f2
        exact V.iret (pc := 119) C rfl dX9_walkedOp_119
      replace hf := ite_t c4 hf
      refine V.iload (pc := 109) C dX9_walkedOp_109 6 rfl ?_
      refine V.goto (pc := 111) (t := 118) C dX9_walkedOp_111 (by decide) ?_
      refine V.iadd (pc := 118) C dX9_walkedOp_118 ?_
      obtain ⟨f1, f2⟩ := fin2 hf
      clear hf
      subst f1
      subst f2
      exact V.iret (pc := 119) C rfl dX9_walkedOp_119
    replace hf := ite_f c1 hf
    refine V.aload_n (pc := 53) C dX9_walkedOp_53 0 rfl ?_
    refine V.iload (pc := 54) C dX9_walkedOp_54 4 rfl ?_
    refine V.iload_n (pc := 56) C dX9_walkedOp_56 1 rfl ?_
    refine V.iload (pc := 57) C dX9_walkedOp_57 6 rfl ?_
    replace hf := ob_some hf
    obtain ⟨q5, h6, hf⟩ := hf
    refine V.callV0i (pc := 59) C hyX9_stepOp wd_1460 (mX9_stepOp (r := q5.1) (g' := q5.2) K.2.1 E (kS K) h6) rfl rfl rfl (oX9_stepOp h6) ⟨Nat.le_of_ble_eq_true rfl, Nat.le_of_ble_eq_true rfl⟩ (Nat.le_of_ble_eq_true rfl) dX9_walkedOp_59 ⟨Nat.zero_le _, Nat.zero_le _⟩ rfl ?_
    refine V.if_ne (pc := 62) (t := 70) C dX9_walkedOp_62 (by decide) (fun c7 => ?_) (fun c7 => ?_)
    · replace hf := ite_f c7 hf
      refine V.aload_n (pc := 70) C dX9_walkedOp_70 0 rfl ?_
      refine V.iload (pc := 71) C dX9_walkedOp_71 4 rfl ?_
      refine V.iload_n (pc := 73) C dX9_walkedOp_73 1 rfl ?_
      refine V.iload (pc := 74) C dX9_walkedOp_74 6 rfl ?_
      replace hf := ob_some hf
      obtain ⟨q8, h9, hf⟩ := hf
      refine V.callV0i (pc := 76) C hyX9_stepOp wd_1460 (mX9_stepOp (r := q8.1) (g' := q8.2) K.2.1 E (kS K) h9) rfl rfl rfl (oX9_stepOp h9) ⟨Nat.le_of_ble_eq_true rfl, Nat.le_of_ble_eq_true rfl⟩ (Nat.le_of_ble_eq_true rfl) dX9_walkedOp_76 ⟨Nat.zero_le _, Nat.zero_le _⟩ rfl ?_
      refine V.iconst (pc := 79) C dX9_walkedOp_79 (v := (1 : Int32)) (by decide) ?_
      refine V.isub (pc := 80) C dX9_walkedOp_80 ?_
      refine V.sub (L' := [(0, .ref v0), (2, .int v2), (3, .int v3), (4, .int v4), (5, .int v5), (7, .int v7)]) [0, 1, 2, 3, 4, 6] rfl ?_
      exact bX9_walkedOp_81 C ih hf
    replace hf := ite_t c7 hf
    refine V.iload (pc := 65) C dX9_walkedOp_65 5 rfl ?_
    refine V.goto (pc := 67) (t := 81) C dX9_walkedOp_67 (by decide) ?_
    refine V.sub (L' := [(0, .ref v0), (2, .int v2), (3, .int v3), (4, .int v4), (5, .int v5), (7, .int v7)]) [0, 1, 2, 3, 4, 6] rfl ?_
    exact bX9_walkedOp_81 C ih hf
def fX9_walkedOp (g : PH) (a0 : Nat) (a1 : Int32) (a2 : Int32) (a3 : Int32) : Option (Int32 × PH) :=
  okb (isO g a0 9) ((getR g a0 9 28).bind fun p1 =>
  ((ldI g p1 0 a1).bind fun x3 =>
  ((getR g a0 9 28).bind fun p5 =>
  ((ldI g p5 0 a1).bind fun x7 =>
  ((getR g a0 9 27).bind fun p9 =>
  ((ldI g p9 0 a1).bind fun x11 =>
  ((fX9_partOf g a0 x11 (0 : Int32)).bind fun q13 =>
  (fX9_walkedOp_47 FUEL q13.2 a0 a2 a3 ((x3 - x3 / (100 : Int32) * (100 : Int32)) / (27 : Int32)) ((x7 - x7 / (100 : Int32) * (100 : Int32)) - ((27 : Int32) * ((x3 - x3 / (100 : Int32) * (100 : Int32)) / (27 : Int32)))) q13.1 (0 : Int32)))))))))
theorem oX9_walkedOp {g : PH} {a0 : Nat} {a1 : Int32} {a2 : Int32} {a3 : Int32} {q : (Int32 × PH)} (h : fX9_walkedOp g a0 a1 a2 a3 = some q) : isO g a0 9 = true := by unfold fX9_walkedOp at h; exact (okb_some h).1
theorem hyX9_walkedOp : hMet yX9_walkedOp RX9 cX9_walkedOp 8 (some .int) 3 := ⟨wd_1483, wd_1482, ws_108, wd_7, rfl, by decide +kernel, by decide +kernel, by decide +kernel⟩
set_option maxHeartbeats 4000000 in
set_option maxRecDepth 100000 in
theorem mX9_walkedOp (l : Launch) (E : HE) (sz : Nat) {g g' : PH} {a0 : Nat} {a1 : Int32} {a2 : Int32} {a3 : Int32} {r : Int32} (hf : fX9_walkedOp g a0 a1 a2 a3 = some (r, g')) : hM l E yX9_walkedOp cX9_walkedOp 8 (some .int) 1 25 0 0 sz g [.ref a0, .int a1, .int a2, .int a3] (some (.int r)) g' := by
  refine hM.of (by decide) (Nat.le_of_ble_eq_true rfl) (fun K hl C hin hsz => ?_)
  subst hl
  subst hsz
  have C : VC K E 8 cX9_walkedOp RX9 (some .int) := C
  unfold fX9_walkedOp at hf
  replace hf := okb_some hf
  obtain ⟨ho, hf⟩ := hf
  refine V.start (L' := [(0, .ref a0), (1, .int a1), (2, .int a2), (3, .int a3)]) rfl ?_
  refine V.aload_n (pc := 0) C dX9_walkedOp_0 0 rfl ?_
  replace hf := ob_some hf
  obtain ⟨p1, h2, hf⟩ := hf
  refine V.getR (pc := 1) C kX9 (k := 28) (by decide) wd_1078 h2 dX9_walkedOp_1 ?_
  refine V.iload_n (pc := 4) C dX9_walkedOp_4 1 rfl ?_
  replace hf := ob_some hf
  obtain ⟨x3, h4, hf⟩ := hf
  refine V.iald (pc := 5) C h4 dX9_walkedOp_5 ?_
  refine V.bipush (pc := 6) C dX9_walkedOp_6 (v := (100 : Int32)) (by decide) ?_
  refine V.irem (pc := 8) C dX9_walkedOp_8 (by decide) ?_
  refine V.bipush (pc := 9) C dX9_walkedOp_9 (v := (27 : Int32)) (by decide) ?_
  refine V.idiv (pc := 11) C dX9_walkedOp_11 (by decide) ?_
  refine V.istore (pc := 12) (L' := [(4, .int ((x3 - x3 / (100 : Int32) * (100 : Int32)) / (27 : Int32))), (0, .ref a0), (1, .int a1), (2, .int a2), (3, .int a3)]) C dX9_walkedOp_12 (by decide) rfl ?_
  refine V.aload_n (pc := 14) C dX9_walkedOp_14 1 rfl ?_
  replace hf := ob_some hf
  obtain ⟨p5, h6, hf⟩ := hf
  refine V.getR (pc := 15) C kX9 (k := 28) (by decide) wd_1078 h6 dX9_walkedOp_15 ?_
  refine V.iload_n (pc := 18) C dX9_walkedOp_18 2 rfl ?_
  replace hf := ob_some hf
  obtain ⟨x7, h8, hf⟩ := hf
  refine V.iald (pc := 19) C h8 dX9_walkedOp_19 ?_
  refine V.bipush (pc := 20) C dX9_walkedOp_20 (v := (100 : Int32)) (by decide) ?_
  refine V.irem (pc := 22) C dX9_walkedOp_22 (by decide) ?_
  refine V.bipush (pc := 23) C dX9_walkedOp_23 (v := (27 : Int32)) (by decide) ?_
  refine V.iload (pc := 25) C dX9_walkedOp_25 0 rfl ?_
  refine V.imul (pc := 27) C dX9_walkedOp_27 ?_
  refine V.isub (pc := 28) C dX9_walkedOp_28 ?_
  refine V.istore (pc := 29) (L' := [(5, .int ((x7 - x7 / (100 : Int32) * (100 : Int32)) - ((27 : Int32) * ((x3 - x3 / (100 : Int32) * (100 : Int32)) / (27 : Int32))))), (4, .int ((x3 - x3 / (100 : Int32) * (100 : Int32)) / (27 : Int32))), (0, .ref a0), (1, .int a1), (2, .int a2), (3, .int a3)]) C dX9_walkedOp_29 (by decide) rfl ?_
  refine V.aload_n (pc := 31) C dX9_walkedOp_31 2 rfl ?_
  refine V.aload_n (pc := 32) C dX9_walkedOp_32 2 rfl ?_
  replace hf := ob_some hf
  obtain ⟨p9, h10, hf⟩ := hf
  refine V.getR (pc := 33) C kX9 (k := 27) (by decide) wd_1077 h10 dX9_walkedOp_33 ?_
  refine V.iload_n (pc := 36) C dX9_walkedOp_36 3 rfl ?_
  replace hf := ob_some hf
  obtain ⟨x11, h12, hf⟩ := hf
  refine V.iald (pc := 37) C h12 dX9_walkedOp_37 ?_
  refine V.iconst (pc := 38) C dX9_walkedOp_38 (v := (0 : Int32)) (by decide) ?_
  replace hf := ob_some hf
  obtain ⟨q13, h14, hf⟩ := hf
  refine V.callV0i (pc := 39) C hyX9_partOf wd_1452 (mX9_partOf (r := q13.1) (g' := q13.2) K.2.1 E (kS K) h14) rfl rfl rfl (oX9_partOf h14) ⟨Nat.le_of_ble_eq_true rfl, Nat.le_of_ble_eq_true rfl⟩ (Nat.le_of_ble_eq_true rfl) dX9_walkedOp_39 ⟨Nat.zero_le _, Nat.zero_le _⟩ rfl ?_
  refine V.istore (pc := 42) (L' := [(6, .int q13.1), (5, .int ((x7 - x7 / (100 : Int32) * (100 : Int32)) - ((27 : Int32) * ((x3 - x3 / (100 : Int32) * (100 : Int32)) / (27 : Int32))))), (4, .int ((x3 - x3 / (100 : Int32) * (100 : Int32)) / (27 : Int32))), (0, .ref a0), (1, .int a1), (2, .int a2), (3, .int a3)]) C dX9_walkedOp_42 (by decide) rfl ?_
  refine V.iconst (pc := 44) C dX9_walkedOp_44 (v := (0 : Int32)) (by decide) ?_
  refine V.istore (pc := 45) (L' := [(7, .int (0 : Int32)), (6, .int q13.1), (5, .int ((x7 - x7 / (100 : Int32) * (100 : Int32)) - ((27 : Int32) * ((x3 - x3 / (100 : Int32) * (100 : Int32)) / (27 : Int32))))), (4, .int ((x3 - x3 / (100 : Int32) * (100 : Int32)) / (27 : Int32))), (0, .ref a0), (1, .int a1), (2, .int a2), (3, .int a3)]) C dX9_walkedOp_45 (by decide) rfl ?_
  refine V.sub (L' := [(0, .ref a0), (2, .int a2), (3, .int a3), (4, .int ((x3 - x3 / (100 : Int32) * (100 : Int32)) / (27 : Int32))), (5, .int ((x7 - x7 / (100 : Int32) * (100 : Int32)) - ((27 : Int32) * ((x3 - x3 / (100 : Int32) * (100 : Int32)) / (27 : Int32))))), (6, .int q13.1), (7, .int (0 : Int32))]) [4, 6, 7, 3, 2, 1, 0] rfl ?_
  exact bX9_walkedOp_47 C  _ _ _ _ _ _ _ _ _ hf
theorem dX9_walk_0 : decode cX9_walk 0 = .ok (.iload_n 2, 1) := by decide +kernel
theorem dX9_walk_1 : decode cX9_walk 1 = .ok (.iconst (-1), 1) := by decide +kernel
theorem dX9_walk_2 : decode cX9_walk 2 = .ok (.if_icmp .lt 19, 3) := by decide +kernel
theorem dX9_walk_5 : decode cX9_walk 5 = .ok (.aload_n 0, 1) := by decide +kernel
theorem dX9_walk_6 : decode cX9_walk 6 = .ok (.iload_n 1, 1) := by decide +kernel
theorem dX9_walk_7 : decode cX9_walk 7 = .ok (.invokevirtual 344, 3) := by decide +kernel
theorem dX9_walk_10 : decode cX9_walk 10 = .ok (.ifCond .eq 11, 3) := by decide +kernel
theorem dX9_walk_13 : decode cX9_walk 13 = .ok (.aload_n 0, 1) := by decide +kernel
theorem dX9_walk_14 : decode cX9_walk 14 = .ok (.iload_n 1, 1) := by decide +kernel
theorem dX9_walk_15 : decode cX9_walk 15 = .ok (.invokevirtual 347, 3) := by decide +kernel
theorem dX9_walk_18 : decode cX9_walk 18 = .ok (.ifCond .gt 5, 3) := by decide +kernel
theorem dX9_walk_21 : decode cX9_walk 21 = .ok (.iconst (-1), 1) := by decide +kernel
theorem dX9_walk_22 : decode cX9_walk 22 = .ok (.ireturn, 1) := by decide +kernel
theorem dX9_walk_23 : decode cX9_walk 23 = .ok (.iconst 0, 1) := by decide +kernel
theorem dX9_walk_24 : decode cX9_walk 24 = .ok (.istore_n 3, 1) := by decide +kernel
theorem dX9_walk_25 : decode cX9_walk 25 = .ok (.aload_n 0, 1) := by decide +kernel
theorem dX9_walk_26 : decode cX9_walk 26 = .ok (.getfield 292, 3) := by decide +kernel
theorem dX9_walk_29 : decode cX9_walk 29 = .ok (.iconst 1, 1) := by decide +kernel
theorem dX9_walk_30 : decode cX9_walk 30 = .ok (.isub, 1) := by decide +kernel
theorem dX9_walk_31 : decode cX9_walk 31 = .ok (.istore 4, 2) := by decide +kernel
theorem dX9_walk_33 : decode cX9_walk 33 = .ok (.aload_n 0, 1) := by decide +kernel
theorem dX9_walk_34 : decode cX9_walk 34 = .ok (.getfield 51, 3) := by decide +kernel
theorem dX9_walk_37 : decode cX9_walk 37 = .ok (.iload 4, 2) := by decide +kernel
theorem dX9_walk_39 : decode cX9_walk 39 = .ok (.iaload, 1) := by decide +kernel
theorem dX9_walk_40 : decode cX9_walk 40 = .ok (.ifCond .lt 26, 3) := by decide +kernel
theorem dX9_walk_43 : decode cX9_walk 43 = .ok (.aload_n 0, 1) := by decide +kernel
theorem dX9_walk_44 : decode cX9_walk 44 = .ok (.getfield 66, 3) := by decide +kernel
theorem dX9_walk_47 : decode cX9_walk 47 = .ok (.iload_n 3, 1) := by decide +kernel
theorem dX9_walk_48 : decode cX9_walk 48 = .ok (.iload 4, 2) := by decide +kernel
theorem dX9_walk_50 : decode cX9_walk 50 = .ok (.iastore, 1) := by decide +kernel
theorem dX9_walk_51 : decode cX9_walk 51 = .ok (.iinc 3 1, 3) := by decide +kernel
theorem dX9_walk_54 : decode cX9_walk 54 = .ok (.aload_n 0, 1) := by decide +kernel
theorem dX9_walk_55 : decode cX9_walk 55 = .ok (.getfield 51, 3) := by decide +kernel
theorem dX9_walk_58 : decode cX9_walk 58 = .ok (.iload 4, 2) := by decide +kernel
theorem dX9_walk_60 : decode cX9_walk 60 = .ok (.iaload, 1) := by decide +kernel
theorem dX9_walk_61 : decode cX9_walk 61 = .ok (.istore 4, 2) := by decide +kernel
theorem dX9_walk_63 : decode cX9_walk 63 = .ok (.goto (-30), 3) := by decide +kernel
theorem dX9_walk_66 : decode cX9_walk 66 = .ok (.iload_n 2, 1) := by decide +kernel
theorem dX9_walk_67 : decode cX9_walk 67 = .ok (.iconst (-1), 1) := by decide +kernel
theorem dX9_walk_68 : decode cX9_walk 68 = .ok (.if_icmp .ne 5, 3) := by decide +kernel
theorem dX9_walk_71 : decode cX9_walk 71 = .ok (.iload_n 3, 1) := by decide +kernel
theorem dX9_walk_72 : decode cX9_walk 72 = .ok (.ireturn, 1) := by decide +kernel
theorem dX9_walk_73 : decode cX9_walk 73 = .ok (.iload_n 2, 1) := by decide +kernel
theorem dX9_walk_74 : decode cX9_walk 74 = .ok (.istore 4, 2) := by decide +kernel
theorem dX9_walk_76 : decode cX9_walk 76 = .ok (.iconst 0, 1) := by decide +kernel
theorem dX9_walk_77 : decode cX9_walk 77 = .ok (.istore 5, 2) := by decide +kernel
theorem dX9_walk_79 : decode cX9_walk 79 = .ok (.iload 5, 2) := by decide +kernel
theorem dX9_walk_81 : decode cX9_walk 81 = .ok (.iload_n 3, 1) := by decide +kernel
theorem dX9_walk_82 : decode cX9_walk 82 = .ok (.if_icmp .ge 65, 3) := by decide +kernel
theorem dX9_walk_85 : decode cX9_walk 85 = .ok (.aload_n 0, 1) := by decide +kernel
theorem dX9_walk_86 : decode cX9_walk 86 = .ok (.getfield 66, 3) := by decide +kernel
theorem dX9_walk_89 : decode cX9_walk 89 = .ok (.iload_n 3, 1) := by decide +kernel
theorem dX9_walk_90 : decode cX9_walk 90 = .ok (.iconst 1, 1) := by decide +kernel
theorem dX9_walk_91 : decode cX9_walk 91 = .ok (.isub, 1) := by decide +kernel
theorem dX9_walk_92 : decode cX9_walk 92 = .ok (.iload 5, 2) := by decide +kernel
theorem dX9_walk_94 : decode cX9_walk 94 = .ok (.isub, 1) := by decide +kernel
theorem dX9_walk_95 : decode cX9_walk 95 = .ok (.iaload, 1) := by decide +kernel
theorem dX9_walk_96 : decode cX9_walk 96 = .ok (.istore 6, 2) := by decide +kernel
theorem dX9_walk_98 : decode cX9_walk 98 = .ok (.aload_n 0, 1) := by decide +kernel
theorem dX9_walk_99 : decode cX9_walk 99 = .ok (.getfield 54, 3) := by decide +kernel
theorem dX9_walk_102 : decode cX9_walk 102 = .ok (.iload 6, 2) := by decide +kernel
theorem dX9_walk_104 : decode cX9_walk 104 = .ok (.iaload, 1) := by decide +kernel
theorem dX9_walk_105 : decode cX9_walk 105 = .ok (.bipush 100, 2) := by decide +kernel
theorem dX9_walk_107 : decode cX9_walk 107 = .ok (.idiv, 1) := by decide +kernel
theorem dX9_walk_108 : decode cX9_walk 108 = .ok (.istore 7, 2) := by decide +kernel
theorem dX9_walk_110 : decode cX9_walk 110 = .ok (.iload 4, 2) := by decide +kernel
theorem dX9_walk_112 : decode cX9_walk 112 = .ok (.iload 7, 2) := by decide +kernel
theorem dX9_walk_114 : decode cX9_walk 114 = .ok (.if_icmp .ge 20, 3) := by decide +kernel
theorem dX9_walk_117 : decode cX9_walk 117 = .ok (.bipush 100, 2) := by decide +kernel
theorem dX9_walk_119 : decode cX9_walk 119 = .ok (.iload 5, 2) := by decide +kernel
theorem dX9_walk_121 : decode cX9_walk 121 = .ok (.imul, 1) := by decide +kernel
theorem dX9_walk_122 : decode cX9_walk 122 = .ok (.aload_n 0, 1) := by decide +kernel
theorem dX9_walk_123 : decode cX9_walk 123 = .ok (.iload 6, 2) := by decide +kernel
theorem dX9_walk_125 : decode cX9_walk 125 = .ok (.iload 7, 2) := by decide +kernel
theorem dX9_walk_127 : decode cX9_walk 127 = .ok (.iload 4, 2) := by decide +kernel
theorem dX9_walk_129 : decode cX9_walk 129 = .ok (.invokevirtual 350, 3) := by decide +kernel
theorem dX9_walk_132 : decode cX9_walk 132 = .ok (.iadd, 1) := by decide +kernel
theorem dX9_walk_133 : decode cX9_walk 133 = .ok (.ireturn, 1) := by decide +kernel
theorem dX9_walk_134 : decode cX9_walk 134 = .ok (.iload 4, 2) := by decide +kernel
theorem dX9_walk_136 : decode cX9_walk 136 = .ok (.iload 7, 2) := by decide +kernel
theorem dX9_walk_138 : decode cX9_walk 138 = .ok (.isub, 1) := by decide +kernel
theorem dX9_walk_139 : decode cX9_walk 139 = .ok (.istore 4, 2) := by decide +kernel
theorem dX9_walk_141 : decode cX9_walk 141 = .ok (.iinc 5 1, 3) := by decide +kernel
theorem dX9_walk_144 : decode cX9_walk 144 = .ok (.goto (-65), 3) := by decide +kernel
theorem dX9_walk_147 : decode cX9_walk 147 = .ok (.bipush (-2), 2) := by decide +kernel
theorem dX9_walk_149 : decode cX9_walk 149 = .ok (.ireturn, 1) := by decide +kernel
def fX9_walk_79  : Nat → PH → Nat → Int32 → Int32 → Int32 → Option (Int32 × PH)
  | 0, _, _, _, _, _ => none
  | n + 1, g, v0, v3, v4, v5 =>
  if v3 ≤ v5 then (some ((-2 : Int32), g)) else
  ((getR g v0 9 34).bind fun p2 =>
  ((ldI g p2 0 ((v3 - (1 : Int32)) - v5)).bind fun x4 =>
  ((getR g v0 9 28).bind fun p6 =>
  ((ldI g p6 0 x4).bind fun x8 =>
  (if (x8 / (100 : Int32)) ≤ v4 then (fX9_walk_79 n g v0 v3 (v4 - (x8 / (100 : Int32))) (v5 + (1 : Int32))) else
  ((fX9_walkedOp g v0 x4 (x8 / (100 : Int32)) v4).bind fun q11 =>
  (some ((((100 : Int32) * v5) + q11.1), q11.2))))))))
set_option maxHeartbeats 4000000 in
set_option maxRecDepth 100000 in
theorem bX9_walk_79 {K : HK} {E : HE} {r : Int32} {g' : PH}  (C : VC K E 8 cX9_walk RX9 (some .int))  : ∀ (n : Nat) (g : PH) (v0 : Nat) (v3 : Int32) (v4 : Int32) (v5 : Int32), fX9_walk_79  n g v0 v3 v4 v5 = some (r, g') → V K E (hRm 11 271 0 0) 8 (hZ K E (some (.int r)) g' 0 0) 0 0 (kS K) g 79 [(0, .ref v0), (3, .int v3), (4, .int v4), (5, .int v5)] [] := by
  intro n
  induction n with
  | zero =>
    intro g v0 v3 v4 v5 hf
    rw [fX9_walk_79] at hf
    cases hf
  | succ n ih =>
    intro g v0 v3 v4 v5 hf
    rw [fX9_walk_79] at hf
    refine V.iload (pc := 79) C dX9_walk_79 3 rfl ?_
    refine V.iload_n (pc := 81) C dX9_walk_81 1 rfl ?_
    refine V.icmp_ge (pc := 82) (t := 147) C dX9_walk_82 (by decide) (fun c1 => ?_) (fun c1 => ?_)
    · replace hf := ite_t c1 hf
      refine V.bipush (pc := 147) C dX9_walk_147 (v := (-2 : Int32)) (by decide) ?_
      obtain ⟨f1, f2⟩ := fin2 hf
      clear hf
      subst f1
      subst f2
      exact V.iret (pc := 149) C rfl dX9_walk_149
    replace hf := ite_f c1 hf
    refine V.aload_n (pc := 85) C dX9_walk_85 0 rfl ?_
    replace hf := ob_some hf
    obtain ⟨p2, h3, hf⟩ := hf
    refine V.getR (pc := 86) C kX9 (k := 34) (by decide) wd_1084 h3 dX9_walk_86 ?_
    refine V.iload_n (pc := 89) C dX9_walk_89 1 rfl ?_
    refine V.iconst (pc := 90) C dX9_walk_90 (v := (1 : Int32)) (by decide) ?_
    refine V.isub (pc := 91) C dX9_walk_91 ?_
    refine V.iload (pc := 92) C dX9_walk_92 3 rfl ?_
    refine V.isub (pc := 94) C dX9_walk_94 ?_
    replace hf := ob_some hf
    obtain ⟨x4, h5, hf⟩ := hf
    refine V.iald (pc := 95) C h5 dX9_walk_95 ?_
    refine V.istore (pc := 96) (L' := [(6, .int x4), (0, .ref v0), (3, .int v3), (4, .int v4), (5, .int v5)]) C dX9_walk_96 (by decide) rfl ?_
    refine V.aload_n (pc := 98) C dX9_walk_98 1 rfl ?_
    replace hf := ob_some hf
    obtain ⟨p6, h7, hf⟩ := hf
    refine V.getR (pc := 99) C kX9 (k := 28) (by decide) wd_1078 h7 dX9_walk_99 ?_
    refine V.iload (pc := 102) C dX9_walk_102 0 rfl ?_
    replace hf := ob_some hf
    obtain ⟨x8, h9, hf⟩ := hf
    refine V.iald (pc := 104) C h9 dX9_walk_104 ?_
    refine V.bipush (pc := 105) C dX9_walk_105 (v := (100 : Int32)) (by decide) ?_
    refine V.idiv (pc := 107) C dX9_walk_107 (by decide) ?_
    refine V.istore (pc := 108) (L' := [(7, .int (x8 / (100 : Int32))), (6, .int x4), (0, .ref v0), (3, .int v3), (4, .int v4), (5, .int v5)]) C dX9_walk_108 (by decide) rfl ?_
    refine V.iload (pc := 110) C dX9_walk_110 4 rfl ?_
    refine V.iload (pc := 112) C dX9_walk_112 0 rfl ?_
    refine V.icmp_ge (pc := 114) (t := 134) C dX9_walk_114 (by decide) (fun c10 => ?_) (fun c10 => ?_)
    · replace hf := ite_t c10 hf
      refine V.iload (pc := 134) C dX9_walk_134 4 rfl ?_
      refine V.iload (pc := 136) C dX9_walk_136 0 rfl ?_
      refine V.isub (pc := 138) C dX9_walk_138 ?_
      refine V.istore (pc := 139) (L' := [(4, .int (v4 - (x8 / (100 : Int32)))), (7, .int (x8 / (100 : Int32))), (6, .int x4), (0, .ref v0), (3, .int v3), (5, .int v5)]) C dX9_walk_139 (by decide) rfl ?_
      refine V.iinc (pc := 141) (v := (v5 + (1 : Int32))) (L' := [(5, .int (v5 + (1 : Int32))), (4, .int (v4 - (x8 / (100 : Int32)))), (7, .int (x8 / (100 : Int32))), (6, .int x4), (0, .ref v0), (3, .int v3)]) C dX9_walk_141 5 rfl rfl (by decide) rfl ?_
      refine V.goto (pc := 144) (t := 79) C dX9_walk_144 (by decide) ?_
      refine V.sub (L' := [(0, .ref v0), (3, .int v3), (4, .int (v4 - (x8 / (100 : Int32)))), (5, .int (v5 + (1 : Int32)))]) [4, 5, 1, 0] rfl ?_
      exact ih _ _ _ _ _ hf
    replace hf := ite_f c10 hf
    refine V.bipush (pc := 117) C dX9_walk_117 (v := (100 : Int32)) (by decide) ?_
    refine V.iload (pc := 119) C dX9_walk_119 5 rfl ?_
    refine V.imul (pc := 121) C dX9_walk_121 ?_
    refine V.aload_n (pc := 122) C dX9_walk_122 2 rfl ?_
    refine V.iload (pc := 123) C dX9_walk_123 1 rfl ?_
    refine V.iload (pc := 125) C dX9_walk_125 0 rfl ?_
    refine V.iload (pc := 127) C dX9_walk_127 4 rfl ?_
    replace hf := ob_some hf
    obtain ⟨q11, h12, hf⟩ := hf
    refine V.callV0i (pc := 129) C hyX9_walkedOp wd_1480 (mX9_walkedOp (r := q11.1) (g' := q11.2) K.2.1 E (kS K) h12) rfl rfl rfl (oX9_walkedOp h12) ⟨Nat.le_of_ble_eq_true rfl, Nat.le_of_ble_eq_true rfl⟩ (Nat.le_of_ble_eq_true rfl) dX9_walk_129 ⟨Nat.zero_le _, Nat.zero_le _⟩ rfl ?_
    refine V.iadd (pc := 132) C dX9_walk_132 ?_
    obtain ⟨f1, f2⟩ := fin2 hf
    clear hf
    subst f1
    subst f2
    exact V.iret (pc := 133) C rfl dX9_walk_133
def fX9_walk_33  : Nat → PH → Nat → Int32 → Int32 → Int32 → Option (Int32 × PH)
  | 0, _, _, _, _, _ => none
  | n + 1, g, v0, v2, v3, v4 =>
  (getR g v0 9 27).bind fun p1 =>
  ((ldI g p1 0 v4).bind fun x3 =>
  (if x3 < 0 then (if v2 = (-1 : Int32) then (some (v3, g)) else
  (fX9_walk_79 FUEL g v0 v3 v2 (0 : Int32))) else
  ((getR g v0 9 34).bind fun p7 =>
  ((stI g p7 0 v3 v4).bind fun g9 =>
  ((getR g9 v0 9 27).bind fun p11 =>
  ((ldI g9 p11 0 v4).bind fun x13 =>
  (fX9_walk_33 n g9 v0 v2 (v3 + (1 : Int32)) x13)))))))
set_option maxHeartbeats 4000000 in
set_option maxRecDepth 100000 in
theorem bX9_walk_33 {K : HK} {E : HE} {r : Int32} {g' : PH}  (C : VC K E 8 cX9_walk RX9 (some .int))  : ∀ (n : Nat) (g : PH) (v0 : Nat) (v2 : Int32) (v3 : Int32) (v4 : Int32), fX9_walk_33  n g v0 v2 v3 v4 = some (r, g') → V K E (hRm 11 271 0 0) 8 (hZ K E (some (.int r)) g' 0 0) 0 0 (kS K) g 33 [(0, .ref v0), (2, .int v2), (3, .int v3), (4, .int v4)] [] := by
  intro n
  induction n with
  | zero =>
    intro g v0 v2 v3 v4 hf
    rw [fX9_walk_33] at hf
    cases hf
  | succ n ih =>
    intro g v0 v2 v3 v4 hf
    rw [fX9_walk_33] at hf
    refine V.aload_n (pc := 33) C dX9_walk_33 0 rfl ?_
    replace hf := ob_some hf
    obtain ⟨p1, h2, hf⟩ := hf
    refine V.getR (pc := 34) C kX9 (k := 27) (by decide) wd_1077 h2 dX9_walk_34 ?_
    refine V.iload (pc := 37) C dX9_walk_37 3 rfl ?_
    replace hf := ob_some hf
    obtain ⟨x3, h4, hf⟩ := hf
    refine V.iald (pc := 39) C h4 dX9_walk_39 ?_
    refine V.if_lt (pc := 40) (t := 66) C dX9_walk_40 (by decide) (fun c5 => ?_) (fun c5 => ?_)
    · replace hf := ite_t c5 hf
      refine V.iload_n (pc := 66) C dX9_walk_66 1 rfl ?_
      refine V.iconst (pc := 67) C dX9_walk_67 (v := (-1 : Int32)) (by decide) ?_
      refine V.icmp_ne (pc := 68) (t := 73) C dX9_walk_68 (by decide) (fun c6 => ?_) (fun c6 => ?_)
      · replace hf := ite_f c6 hf
        refine V.iload_n (pc := 73) C dX9_walk_73 1 rfl ?_
        refine V.istore (pc := 74) (L' := [(4, .int v2), (0, .ref v0), (2, .int v2), (3, .int v3)]) C dX9_walk_74 (by decide) rfl ?_
        refine V.iconst (pc := 76) C dX9_walk_76 (v := (0 : Int32)) (by decide) ?_
        refine V.istore (pc := 77) (L' := [(5, .int (0 : Int32)), (4, .int v2), (0, .ref v0), (2, .int v2), (3, .int v3)]) C dX9_walk_77 (by decide) rfl ?_
        refine V.sub (L' := [(0, .ref v0), (3, .int v3), (4, .int v2), (5, .int (0 : Int32))]) [2, 4, 1, 0] rfl ?_
        exact bX9_walk_79 C  _ _ _ _ _ _ hf
      replace hf := ite_t c6 hf
      refine V.iload_n (pc := 71) C dX9_walk_71 2 rfl ?_
      obtain ⟨f1, f2⟩ := fin2 hf
      clear hf
      subst f1
      subst f2
      exact V.iret (pc := 72) C rfl dX9_walk_72
    replace hf := ite_f c5 hf
    refine V.aload_n (pc := 43) C dX9_walk_43 0 rfl ?_
    replace hf := ob_some hf
    obtain ⟨p7, h8, hf⟩ := hf
    refine V.getR (pc := 44) C kX9 (k := 34) (by decide) wd_1084 h8 dX9_walk_44 ?_
    refine V.iload_n (pc := 47) C dX9_walk_47 2 rfl ?_
    refine V.iload (pc := 48) C dX9_walk_48 3 rfl ?_
    replace hf := ob_some hf
    obtain ⟨g9, h10, hf⟩ := hf
    refine V.iast (pc := 50) C h10 dX9_walk_50 ?_
    refine V.iinc (pc := 51) (v := (v3 + (1 : Int32))) (L' := [(3, .int (v3 + (1 : Int32))), (0, .ref v0), (2, .int v2), (4, .int v4)]) C dX9_walk_51 2 rfl rfl (by decide) rfl ?_
    refine V.aload_n (pc := 54) C dX9_walk_54 1 rfl ?_
    replace hf := ob_some hf
    obtain ⟨p11, h12, hf⟩ := hf
    refine V.getR (pc := 55) C kX9 (k := 27) (by decide) wd_1077 h12 dX9_walk_55 ?_
    refine V.iload (pc := 58) C dX9_walk_58 3 rfl ?_
    replace hf := ob_some hf
    obtain ⟨x13, h14, hf⟩ := hf
    refine V.iald (pc := 60) C h14 dX9_walk_60 ?_
    refine V.istore (pc := 61) (L' := [(4, .int x13), (3, .int (v3 + (1 : Int32))), (0, .ref v0), (2, .int v2)]) C dX9_walk_61 (by decide) rfl ?_
    refine V.goto (pc := 63) (t := 33) C dX9_walk_63 (by decide) ?_
    refine V.sub (L' := [(0, .ref v0), (2, .int v2), (3, .int (v3 + (1 : Int32))), (4, .int x13)]) [2, 3, 1, 0] rfl ?_
    exact ih _ _ _ _ _ hf
def fX9_walk (g : PH) (a0 : Nat) (a1 : Int32) (a2 : Int32) : Option (Int32 × PH) :=
  okb (isO g a0 9) (if a2 < (-1 : Int32) then (some ((-1 : Int32), g)) else
  ((fX9_areKinds g a0 a1).bind fun q2 =>
  (if q2.1 = 0 then (some ((-1 : Int32), q2.2)) else
  ((fX9_leastOf q2.2 a0 a1).bind fun q5 =>
  (if 0 < q5.1 then ((getI q5.2 a0 9 29).bind fun x8 =>
  (fX9_walk_33 FUEL q5.2 a0 a2 (0 : Int32) (x8 - (1 : Int32)))) else
  (some ((-1 : Int32), q5.2)))))))
theorem oX9_walk {g : PH} {a0 : Nat} {a1 : Int32} {a2 : Int32} {q : (Int32 × PH)} (h : fX9_walk g a0 a1 a2 = some q) : isO g a0 9 = true := by unfold fX9_walk at h; exact (okb_some h).1
theorem hyX9_walk : hMet yX9_walk RX9 cX9_walk 8 (some .int) 2 := ⟨wd_1479, wd_1477, wd_1478, wd_7, rfl, by decide +kernel, by decide +kernel, by decide +kernel⟩
set_option maxHeartbeats 4000000 in
set_option maxRecDepth 100000 in
theorem mX9_walk (l : Launch) (E : HE) (sz : Nat) {g g' : PH} {a0 : Nat} {a1 : Int32} {a2 : Int32} {r : Int32} (hf : fX9_walk g a0 a1 a2 = some (r, g')) : hM l E yX9_walk cX9_walk 8 (some .int) 11 271 0 0 sz g [.ref a0, .int a1, .int a2] (some (.int r)) g' := by
  refine hM.of (by decide) (Nat.le_of_ble_eq_true rfl) (fun K hl C hin hsz => ?_)
  subst hl
  subst hsz
  have C : VC K E 8 cX9_walk RX9 (some .int) := C
  unfold fX9_walk at hf
  replace hf := okb_some hf
  obtain ⟨ho, hf⟩ := hf
  refine V.start (L' := [(0, .ref a0), (1, .int a1), (2, .int a2)]) rfl ?_
  refine V.iload_n (pc := 0) C dX9_walk_0 2 rfl ?_
  refine V.iconst (pc := 1) C dX9_walk_1 (v := (-1 : Int32)) (by decide) ?_
  refine V.icmp_lt (pc := 2) (t := 21) C dX9_walk_2 (by decide) (fun c1 => ?_) (fun c1 => ?_)
  · replace hf := ite_t c1 hf
    refine V.iconst (pc := 21) C dX9_walk_21 (v := (-1 : Int32)) (by decide) ?_
    obtain ⟨f1, f2⟩ := fin2 hf
    clear hf
    subst f1
    subst f2
    exact V.iret (pc := 22) C rfl dX9_walk_22
  replace hf := ite_f c1 hf
  refine V.aload_n (pc := 5) C dX9_walk_5 0 rfl ?_
  refine V.iload_n (pc := 6) C dX9_walk_6 1 rfl ?_
  replace hf := ob_some hf
  obtain ⟨q2, h3, hf⟩ := hf
  refine V.callV0i (pc := 7) C hyX9_areKinds wd_1413 (mX9_areKinds (r := q2.1) (g' := q2.2) K.2.1 E (kS K) h3) rfl rfl rfl (oX9_areKinds h3) ⟨Nat.le_of_ble_eq_true rfl, Nat.le_of_ble_eq_true rfl⟩ (Nat.le_of_ble_eq_true rfl) dX9_walk_7 ⟨Nat.zero_le _, Nat.zero_le _⟩ rfl ?_
  refine V.if_eq (pc := 10) (t := 21) C dX9_walk_10 (by decide) (fun c4 => ?_) (fun c4 => ?_)
  · replace hf := ite_t c4 hf
    refine V.iconst (pc := 21) C dX9_walk_21 (v := (-1 : Int32)) (by decide) ?_
    obtain ⟨f1, f2⟩ := fin2 hf
    clear hf
    subst f1
    subst f2
    exact V.iret (pc := 22) C rfl dX9_walk_22
  replace hf := ite_f c4 hf
  refine V.aload_n (pc := 13) C dX9_walk_13 0 rfl ?_
  refine V.iload_n (pc := 14) C dX9_walk_14 1 rfl ?_
  replace hf := ob_some hf
  obtain ⟨q5, h6, hf⟩ := hf
  refine V.callV0i (pc := 15) C hyX9_leastOf wd_1417 (mX9_leastOf (r := q5.1) (g' := q5.2) K.2.1 E (kS K) h6) rfl rfl rfl (oX9_leastOf h6) ⟨Nat.le_of_ble_eq_true rfl, Nat.le_of_ble_eq_true rfl⟩ (Nat.le_of_ble_eq_true rfl) dX9_walk_15 ⟨Nat.zero_le _, Nat.zero_le _⟩ rfl ?_
  refine V.if_gt (pc := 18) (t := 23) C dX9_walk_18 (by decide) (fun c7 => ?_) (fun c7 => ?_)
  · replace hf := ite_t c7 hf
    refine V.iconst (pc := 23) C dX9_walk_23 (v := (0 : Int32)) (by decide) ?_
    refine V.istore_n (pc := 24) (L' := [(3, .int (0 : Int32)), (0, .ref a0), (1, .int a1), (2, .int a2)]) C dX9_walk_24 (by decide) rfl ?_
    refine V.aload_n (pc := 25) C dX9_walk_25 1 rfl ?_
    replace hf := ob_some hf
    obtain ⟨x8, h9, hf⟩ := hf
    refine V.getI (pc := 26) C kX9 (k := 29) (by decide) wd_1079 h9 dX9_walk_26 ?_
    refine V.iconst (pc := 29) C dX9_walk_29 (v := (1 : Int32)) (by decide) ?_
    refine V.isub (pc := 30) C dX9_walk_30 ?_
    refine V.istore (pc := 31) (L' := [(4, .int (x8 - (1 : Int32))), (3, .int (0 : Int32)), (0, .ref a0), (1, .int a1), (2, .int a2)]) C dX9_walk_31 (by decide) rfl ?_
    refine V.sub (L' := [(0, .ref a0), (2, .int a2), (3, .int (0 : Int32)), (4, .int (x8 - (1 : Int32)))]) [2, 4, 1, 0] rfl ?_
    exact bX9_walk_33 C  _ _ _ _ _ _ hf
  replace hf := ite_f c7 hf
  refine V.iconst (pc := 21) C dX9_walk_21 (v := (-1 : Int32)) (by decide) ?_
  obtain ⟨f1, f2⟩ := fin2 hf
  clear hf
  subst f1
  subst f2
  exact V.iret (pc := 22) C rfl dX9_walk_22
theorem dX9_memory_0 : decode cX9_memory 0 = .ok (.iload_n 1, 1) := by decide +kernel
theorem dX9_memory_1 : decode cX9_memory 1 = .ok (.i2l, 1) := by decide +kernel
theorem dX9_memory_2 : decode cX9_memory 2 = .ok (.ldc2_w 301, 3) := by decide +kernel
theorem dX9_memory_5 : decode cX9_memory 5 = .ok (.ldc2_w 353, 3) := by decide +kernel
theorem dX9_memory_8 : decode cX9_memory 8 = .ok (.invokestatic 86, 3) := by decide +kernel
theorem dX9_memory_11 : decode cX9_memory 11 = .ok (.ifCond .ne 5, 3) := by decide +kernel
theorem dX9_memory_14 : decode cX9_memory 14 = .ok (.iconst 0, 1) := by decide +kernel
theorem dX9_memory_15 : decode cX9_memory 15 = .ok (.ireturn, 1) := by decide +kernel
theorem dX9_memory_16 : decode cX9_memory 16 = .ok (.aload_n 0, 1) := by decide +kernel
theorem dX9_memory_17 : decode cX9_memory 17 = .ok (.iload_n 1, 1) := by decide +kernel
theorem dX9_memory_18 : decode cX9_memory 18 = .ok (.invokevirtual 78, 3) := by decide +kernel
theorem dX9_memory_21 : decode cX9_memory 21 = .ok (.iconst 1, 1) := by decide +kernel
theorem dX9_memory_22 : decode cX9_memory 22 = .ok (.ireturn, 1) := by decide +kernel
def fX9_memory (g : PH) (a0 : Nat) (a1 : Int32) : Option (Int32 × PH) :=
  okb (isO g a0 9) ((fX9_isIn g a1.toInt64 (2 : Int64) (6 : Int64)).bind fun q1 =>
  (if q1.1 = 0 then (some ((0 : Int32), q1.2)) else
  ((fX9_begins q1.2 a0 a1).bind fun q4 =>
  (some ((1 : Int32), q4.2)))))
theorem oX9_memory {g : PH} {a0 : Nat} {a1 : Int32} {q : (Int32 × PH)} (h : fX9_memory g a0 a1 = some q) : isO g a0 9 = true := by unfold fX9_memory at h; exact (okb_some h).1
theorem hyX9_memory : hMet yX9_memory RX9 cX9_memory 2 (some .boolean) 1 := ⟨wd_1487, wd_1485, wd_1486, wd_7, rfl, by decide +kernel, by decide +kernel, by decide +kernel⟩
set_option maxHeartbeats 4000000 in
set_option maxRecDepth 100000 in
theorem mX9_memory (l : Launch) (E : HE) (sz : Nat) {g g' : PH} {a0 : Nat} {a1 : Int32} {r : Int32} (hf : fX9_memory g a0 a1 = some (r, g')) : hM l E yX9_memory cX9_memory 2 (some .boolean) 1 25 0 0 sz g [.ref a0, .int a1] (some (.int r)) g' := by
  refine hM.of (by decide) (Nat.le_of_ble_eq_true rfl) (fun K hl C hin hsz => ?_)
  subst hl
  subst hsz
  have C : VC K E 2 cX9_memory RX9 (some .boolean) := C
  unfold fX9_memory at hf
  replace hf := okb_some hf
  obtain ⟨ho, hf⟩ := hf
  refine V.start (L' := [(0, .ref a0), (1, .int a1)]) rfl ?_
  refine V.iload_n (pc := 0) C dX9_memory_0 1 rfl ?_
  refine V.i2l (pc := 1) C dX9_memory_1 ?_
  refine V.ldc2 (pc := 2) C wd_1432 dX9_memory_2 ?_
  refine V.ldc2 (pc := 5) C wd_1488 dX9_memory_5 ?_
  replace hf := ob_some hf
  obtain ⟨q1, h2, hf⟩ := hf
  refine V.callS0i (pc := 8) C hyX9_isIn wd_1182 (mX9_isIn (r := q1.1) (g' := q1.2) K.2.1 E (kS K) h2) rfl ⟨Nat.le_of_ble_eq_true rfl, Nat.le_of_ble_eq_true rfl⟩ (Nat.le_of_ble_eq_true rfl) dX9_memory_8 ⟨Nat.zero_le _, Nat.zero_le _⟩ rfl ?_
  refine V.if_ne (pc := 11) (t := 16) C dX9_memory_11 (by decide) (fun c3 => ?_) (fun c3 => ?_)
  · replace hf := ite_f c3 hf
    refine V.aload_n (pc := 16) C dX9_memory_16 0 rfl ?_
    refine V.iload_n (pc := 17) C dX9_memory_17 1 rfl ?_
    replace hf := ob_some hf
    obtain ⟨q4, h5, hf⟩ := hf
    refine V.callV0v (pc := 18) C hyX9_begins wd_1046 (mX9_begins (r := q4.1) (g' := q4.2) K.2.1 E (kS K) h5) rfl rfl rfl (oX9_begins h5) ⟨Nat.le_of_ble_eq_true rfl, Nat.le_of_ble_eq_true rfl⟩ (Nat.le_of_ble_eq_true rfl) dX9_memory_18 ⟨Nat.zero_le _, Nat.zero_le _⟩ rfl ?_
    refine V.iconst (pc := 21) C dX9_memory_21 (v := (1 : Int32)) (by decide) ?_
    obtain ⟨f1, f2⟩ := fin2 hf
    clear hf
    subst f1
    subst f2
    exact V.zret (pc := 22) C rfl rfl dX9_memory_22
  replace hf := ite_t c3 hf
  refine V.iconst (pc := 14) C dX9_memory_14 (v := (0 : Int32)) (by decide) ?_
  obtain ⟨f1, f2⟩ := fin2 hf
  clear hf
  subst f1
  subst f2
  exact V.zret (pc := 15) C rfl rfl dX9_memory_15
theorem dX9_keepsAct_0 : decode cX9_keepsAct 0 = .ok (.aload_n 0, 1) := by decide +kernel
theorem dX9_keepsAct_1 : decode cX9_keepsAct 1 = .ok (.getfield 183, 3) := by decide +kernel
theorem dX9_keepsAct_4 : decode cX9_keepsAct 4 = .ok (.bipush 20, 2) := by decide +kernel
theorem dX9_keepsAct_6 : decode cX9_keepsAct 6 = .ok (.if_icmp .ne 46, 3) := by decide +kernel
theorem dX9_keepsAct_9 : decode cX9_keepsAct 9 = .ok (.sipush 133, 3) := by decide +kernel
theorem dX9_keepsAct_12 : decode cX9_keepsAct 12 = .ok (.istore_n 1, 1) := by decide +kernel
theorem dX9_keepsAct_13 : decode cX9_keepsAct 13 = .ok (.iload_n 1, 1) := by decide +kernel
theorem dX9_keepsAct_14 : decode cX9_keepsAct 14 = .ok (.sipush 2660, 3) := by decide +kernel
theorem dX9_keepsAct_17 : decode cX9_keepsAct 17 = .ok (.if_icmp .ge 25, 3) := by decide +kernel
theorem dX9_keepsAct_20 : decode cX9_keepsAct 20 = .ok (.aload_n 0, 1) := by decide +kernel
theorem dX9_keepsAct_21 : decode cX9_keepsAct 21 = .ok (.getfield 38, 3) := by decide +kernel
theorem dX9_keepsAct_24 : decode cX9_keepsAct 24 = .ok (.iload_n 1, 1) := by decide +kernel
theorem dX9_keepsAct_25 : decode cX9_keepsAct 25 = .ok (.sipush 133, 3) := by decide +kernel
theorem dX9_keepsAct_28 : decode cX9_keepsAct 28 = .ok (.isub, 1) := by decide +kernel
theorem dX9_keepsAct_29 : decode cX9_keepsAct 29 = .ok (.aload_n 0, 1) := by decide +kernel
theorem dX9_keepsAct_30 : decode cX9_keepsAct 30 = .ok (.getfield 38, 3) := by decide +kernel
theorem dX9_keepsAct_33 : decode cX9_keepsAct 33 = .ok (.iload_n 1, 1) := by decide +kernel
theorem dX9_keepsAct_34 : decode cX9_keepsAct 34 = .ok (.iaload, 1) := by decide +kernel
theorem dX9_keepsAct_35 : decode cX9_keepsAct 35 = .ok (.iastore, 1) := by decide +kernel
theorem dX9_keepsAct_36 : decode cX9_keepsAct 36 = .ok (.iinc 1 1, 3) := by decide +kernel
theorem dX9_keepsAct_39 : decode cX9_keepsAct 39 = .ok (.goto (-26), 3) := by decide +kernel
theorem dX9_keepsAct_42 : decode cX9_keepsAct 42 = .ok (.aload_n 0, 1) := by decide +kernel
theorem dX9_keepsAct_43 : decode cX9_keepsAct 43 = .ok (.dup, 1) := by decide +kernel
theorem dX9_keepsAct_44 : decode cX9_keepsAct 44 = .ok (.getfield 183, 3) := by decide +kernel
theorem dX9_keepsAct_47 : decode cX9_keepsAct 47 = .ok (.iconst 1, 1) := by decide +kernel
theorem dX9_keepsAct_48 : decode cX9_keepsAct 48 = .ok (.isub, 1) := by decide +kernel
theorem dX9_keepsAct_49 : decode cX9_keepsAct 49 = .ok (.putfield 183, 3) := by decide +kernel
theorem dX9_keepsAct_52 : decode cX9_keepsAct 52 = .ok (.iconst 0, 1) := by decide +kernel
theorem dX9_keepsAct_53 : decode cX9_keepsAct 53 = .ok (.istore_n 1, 1) := by decide +kernel
theorem dX9_keepsAct_54 : decode cX9_keepsAct 54 = .ok (.iload_n 1, 1) := by decide +kernel
theorem dX9_keepsAct_55 : decode cX9_keepsAct 55 = .ok (.sipush 133, 3) := by decide +kernel
theorem dX9_keepsAct_58 : decode cX9_keepsAct 58 = .ok (.if_icmp .ge 30, 3) := by decide +kernel
theorem dX9_keepsAct_61 : decode cX9_keepsAct 61 = .ok (.aload_n 0, 1) := by decide +kernel
theorem dX9_keepsAct_62 : decode cX9_keepsAct 62 = .ok (.getfield 38, 3) := by decide +kernel
theorem dX9_keepsAct_65 : decode cX9_keepsAct 65 = .ok (.sipush 133, 3) := by decide +kernel
theorem dX9_keepsAct_68 : decode cX9_keepsAct 68 = .ok (.aload_n 0, 1) := by decide +kernel
theorem dX9_keepsAct_69 : decode cX9_keepsAct 69 = .ok (.getfield 183, 3) := by decide +kernel
theorem dX9_keepsAct_72 : decode cX9_keepsAct 72 = .ok (.imul, 1) := by decide +kernel
theorem dX9_keepsAct_73 : decode cX9_keepsAct 73 = .ok (.iload_n 1, 1) := by decide +kernel
theorem dX9_keepsAct_74 : decode cX9_keepsAct 74 = .ok (.iadd, 1) := by decide +kernel
theorem dX9_keepsAct_75 : decode cX9_keepsAct 75 = .ok (.aload_n 0, 1) := by decide +kernel
theorem dX9_keepsAct_76 : decode cX9_keepsAct 76 = .ok (.getfield 32, 3) := by decide +kernel
theorem dX9_keepsAct_79 : decode cX9_keepsAct 79 = .ok (.iload_n 1, 1) := by decide +kernel
theorem dX9_keepsAct_80 : decode cX9_keepsAct 80 = .ok (.iaload, 1) := by decide +kernel
theorem dX9_keepsAct_81 : decode cX9_keepsAct 81 = .ok (.iastore, 1) := by decide +kernel
theorem dX9_keepsAct_82 : decode cX9_keepsAct 82 = .ok (.iinc 1 1, 3) := by decide +kernel
theorem dX9_keepsAct_85 : decode cX9_keepsAct 85 = .ok (.goto (-31), 3) := by decide +kernel
theorem dX9_keepsAct_88 : decode cX9_keepsAct 88 = .ok (.aload_n 0, 1) := by decide +kernel
theorem dX9_keepsAct_89 : decode cX9_keepsAct 89 = .ok (.dup, 1) := by decide +kernel
theorem dX9_keepsAct_90 : decode cX9_keepsAct 90 = .ok (.getfield 183, 3) := by decide +kernel
theorem dX9_keepsAct_93 : decode cX9_keepsAct 93 = .ok (.iconst 1, 1) := by decide +kernel
theorem dX9_keepsAct_94 : decode cX9_keepsAct 94 = .ok (.iadd, 1) := by decide +kernel
theorem dX9_keepsAct_95 : decode cX9_keepsAct 95 = .ok (.putfield 183, 3) := by decide +kernel
theorem dX9_keepsAct_98 : decode cX9_keepsAct 98 = .ok (.return_, 1) := by decide +kernel
def fX9_keepsAct_54  : Nat → PH → Nat → Int32 → Option (Unit × PH)
  | 0, _, _, _ => none
  | n + 1, g, v0, v1 =>
  if (133 : Int32) ≤ v1 then ((getI g v0 9 19).bind fun x2 =>
  ((putV g v0 9 19 (.int (x2 + (1 : Int32)))).bind fun g4 =>
  (some ((), g4)))) else
  ((getR g v0 9 18).bind fun p6 =>
  ((getI g v0 9 19).bind fun x8 =>
  ((getR g v0 9 16).bind fun p10 =>
  ((ldI g p10 0 v1).bind fun x12 =>
  ((stI g p6 0 (((133 : Int32) * x8) + v1) x12).bind fun g14 =>
  (fX9_keepsAct_54 n g14 v0 (v1 + (1 : Int32))))))))
set_option maxHeartbeats 4000000 in
set_option maxRecDepth 100000 in
theorem bX9_keepsAct_54 {K : HK} {E : HE} {r : Unit} {g' : PH}  (C : VC K E 2 cX9_keepsAct RX9 none)  : ∀ (n : Nat) (g : PH) (v0 : Nat) (v1 : Int32), fX9_keepsAct_54  n g v0 v1 = some (r, g') → V K E (hRm 0 0 0 0) 2 (hZ K E none g' 0 0) 0 0 (kS K) g 54 [(0, .ref v0), (1, .int v1)] [] := by
  intro n
  induction n with
  | zero =>
    intro g v0 v1 hf
    rw [fX9_keepsAct_54] at hf
    cases hf
  | succ n ih =>
    intro g v0 v1 hf
    rw [fX9_keepsAct_54] at hf
    refine V.iload_n (pc := 54) C dX9_keepsAct_54 1 rfl ?_
    refine V.sipush (pc := 55) C dX9_keepsAct_55 (v := (133 : Int32)) (by decide) ?_
    refine V.icmp_ge (pc := 58) (t := 88) C dX9_keepsAct_58 (by decide) (fun c1 => ?_) (fun c1 => ?_)
    · replace hf := ite_t c1 hf
      refine V.aload_n (pc := 88) C dX9_keepsAct_88 0 rfl ?_
      refine V.dup (pc := 89) C dX9_keepsAct_89 rfl ?_
      replace hf := ob_some hf
      obtain ⟨x2, h3, hf⟩ := hf
      refine V.getI (pc := 90) C kX9 (k := 19) (by decide) wd_1069 h3 dX9_keepsAct_90 ?_
      refine V.iconst (pc := 93) C dX9_keepsAct_93 (v := (1 : Int32)) (by decide) ?_
      refine V.iadd (pc := 94) C dX9_keepsAct_94 ?_
      replace hf := ob_some hf
      obtain ⟨g4, h5, hf⟩ := hf
      refine V.putX (pc := 95) C kX9 (k := 19) (by decide) wd_1069 rfl rfl rfl h5 dX9_keepsAct_95 ?_
      obtain ⟨f1, f2⟩ := fin2 hf
      clear hf
      subst f1
      subst f2
      exact V.vret (pc := 98) C rfl dX9_keepsAct_98
    replace hf := ite_f c1 hf
    refine V.aload_n (pc := 61) C dX9_keepsAct_61 0 rfl ?_
    replace hf := ob_some hf
    obtain ⟨p6, h7, hf⟩ := hf
    refine V.getR (pc := 62) C kX9 (k := 18) (by decide) wd_1068 h7 dX9_keepsAct_62 ?_
    refine V.sipush (pc := 65) C dX9_keepsAct_65 (v := (133 : Int32)) (by decide) ?_
    refine V.aload_n (pc := 68) C dX9_keepsAct_68 0 rfl ?_
    replace hf := ob_some hf
    obtain ⟨x8, h9, hf⟩ := hf
    refine V.getI (pc := 69) C kX9 (k := 19) (by decide) wd_1069 h9 dX9_keepsAct_69 ?_
    refine V.imul (pc := 72) C dX9_keepsAct_72 ?_
    refine V.iload_n (pc := 73) C dX9_keepsAct_73 1 rfl ?_
    refine V.iadd (pc := 74) C dX9_keepsAct_74 ?_
    refine V.aload_n (pc := 75) C dX9_keepsAct_75 0 rfl ?_
    replace hf := ob_some hf
    obtain ⟨p10, h11, hf⟩ := hf
    refine V.getR (pc := 76) C kX9 (k := 16) (by decide) wd_1066 h11 dX9_keepsAct_76 ?_
    refine V.iload_n (pc := 79) C dX9_keepsAct_79 1 rfl ?_
    replace hf := ob_some hf
    obtain ⟨x12, h13, hf⟩ := hf
    refine V.iald (pc := 80) C h13 dX9_keepsAct_80 ?_
    replace hf := ob_some hf
    obtain ⟨g14, h15, hf⟩ := hf
    refine V.iast (pc := 81) C h15 dX9_keepsAct_81 ?_
    refine V.iinc (pc := 82) (v := (v1 + (1 : Int32))) (L' := [(1, .int (v1 + (1 : Int32))), (0, .ref v0)]) C dX9_keepsAct_82 1 rfl rfl (by decide) rfl ?_
    refine V.goto (pc := 85) (t := 54) C dX9_keepsAct_85 (by decide) ?_
    refine V.sub (L' := [(0, .ref v0), (1, .int (v1 + (1 : Int32)))]) [1, 0] rfl ?_
    exact ih _ _ _ hf
def fX9_keepsAct_52  (g : PH) (v0 : Nat) : Option (Unit × PH) :=
  fX9_keepsAct_54 FUEL g v0 (0 : Int32)
set_option maxHeartbeats 4000000 in
set_option maxRecDepth 100000 in
theorem bX9_keepsAct_52 {K : HK} {E : HE} {r : Unit} {g' : PH}  (C : VC K E 2 cX9_keepsAct RX9 none)  {g : PH} {v0 : Nat} (hf : fX9_keepsAct_52  g v0 = some (r, g')) : V K E (hRm 0 0 0 0) 2 (hZ K E none g' 0 0) 0 0 (kS K) g 52 [(0, .ref v0)] [] := by
  unfold fX9_keepsAct_52 at hf
  refine V.iconst (pc := 52) C dX9_keepsAct_52 (v := (0 : Int32)) (by decide) ?_
  refine V.istore_n (pc := 53) (L' := [(1, .int (0 : Int32)), (0, .ref v0)]) C dX9_keepsAct_53 (by decide) rfl ?_
  refine V.sub (L' := [(0, .ref v0), (1, .int (0 : Int32))]) [1, 0] rfl ?_
  exact bX9_keepsAct_54 C  _ _ _ _ hf
def fX9_keepsAct_13  : Nat → PH → Nat → Int32 → Option (Unit × PH)
  | 0, _, _, _ => none
  | n + 1, g, v0, v1 =>
  if (2660 : Int32) ≤ v1 then ((getI g v0 9 19).bind fun x2 =>
  ((putV g v0 9 19 (.int (x2 - (1 : Int32)))).bind fun g4 =>
  (fX9_keepsAct_52 g4 v0))) else
  ((getR g v0 9 18).bind fun p6 =>
  ((getR g v0 9 18).bind fun p8 =>
  ((ldI g p8 0 v1).bind fun x10 =>
  ((stI g p6 0 (v1 - (133 : Int32)) x10).bind fun g12 =>
  (fX9_keepsAct_13 n g12 v0 (v1 + (1 : Int32)))))))
set_option maxHeartbeats 4000000 in
set_option maxRecDepth 100000 in
theorem bX9_keepsAct_13 {K : HK} {E : HE} {r : Unit} {g' : PH}  (C : VC K E 2 cX9_keepsAct RX9 none)  : ∀ (n : Nat) (g : PH) (v0 : Nat) (v1 : Int32), fX9_keepsAct_13  n g v0 v1 = some (r, g') → V K E (hRm 0 0 0 0) 2 (hZ K E none g' 0 0) 0 0 (kS K) g 13 [(0, .ref v0), (1, .int v1)] [] := by
  intro n
  induction n with
  | zero =>
    intro g v0 v1 hf
    rw [fX9_keepsAct_13] at hf
    cases hf
  | succ n ih =>
    intro g v0 v1 hf
    rw [fX9_keepsAct_13] at hf
    refine V.iload_n (pc := 13) C dX9_keepsAct_13 1 rfl ?_
    refine V.sipush (pc := 14) C dX9_keepsAct_14 (v := (2660 : Int32)) (by decide) ?_
    refine V.icmp_ge (pc := 17) (t := 42) C dX9_keepsAct_17 (by decide) (fun c1 => ?_) (fun c1 => ?_)
    · replace hf := ite_t c1 hf
      refine V.aload_n (pc := 42) C dX9_keepsAct_42 0 rfl ?_
      refine V.dup (pc := 43) C dX9_keepsAct_43 rfl ?_
      replace hf := ob_some hf
      obtain ⟨x2, h3, hf⟩ := hf
      refine V.getI (pc := 44) C kX9 (k := 19) (by decide) wd_1069 h3 dX9_keepsAct_44 ?_
      refine V.iconst (pc := 47) C dX9_keepsAct_47 (v := (1 : Int32)) (by decide) ?_
      refine V.isub (pc := 48) C dX9_keepsAct_48 ?_
      replace hf := ob_some hf
      obtain ⟨g4, h5, hf⟩ := hf
      refine V.putX (pc := 49) C kX9 (k := 19) (by decide) wd_1069 rfl rfl rfl h5 dX9_keepsAct_49 ?_
      refine V.sub (L' := [(0, .ref v0)]) [0] rfl ?_
      exact bX9_keepsAct_52 C  hf
    replace hf := ite_f c1 hf
    refine V.aload_n (pc := 20) C dX9_keepsAct_20 0 rfl ?_
    replace hf := ob_some hf
    obtain ⟨p6, h7, hf⟩ := hf
    refine V.getR (pc := 21) C kX9 (k := 18) (by decide) wd_1068 h7 dX9_keepsAct_21 ?_
    refine V.iload_n (pc := 24) C dX9_keepsAct_24 1 rfl ?_
    refine V.sipush (pc := 25) C dX9_keepsAct_25 (v := (133 : Int32)) (by decide) ?_
    refine V.isub (pc := 28) C dX9_keepsAct_28 ?_
    refine V.aload_n (pc := 29) C dX9_keepsAct_29 0 rfl ?_
    replace hf := ob_some hf
    obtain ⟨p8, h9, hf⟩ := hf
    refine V.getR (pc := 30) C kX9 (k := 18) (by decide) wd_1068 h9 dX9_keepsAct_30 ?_
    refine V.iload_n (pc := 33) C dX9_keepsAct_33 1 rfl ?_
    replace hf := ob_some hf
    obtain ⟨x10, h11, hf⟩ := hf
    refine V.iald (pc := 34) C h11 dX9_keepsAct_34 ?_
    replace hf := ob_some hf
    obtain ⟨g12, h13, hf⟩ := hf
    refine V.iast (pc := 35) C h13 dX9_keepsAct_35 ?_
    refine V.iinc (pc := 36) (v := (v1 + (1 : Int32))) (L' := [(1, .int (v1 + (1 : Int32))), (0, .ref v0)]) C dX9_keepsAct_36 1 rfl rfl (by decide) rfl ?_
    refine V.goto (pc := 39) (t := 13) C dX9_keepsAct_39 (by decide) ?_
    refine V.sub (L' := [(0, .ref v0), (1, .int (v1 + (1 : Int32)))]) [1, 0] rfl ?_
    exact ih _ _ _ hf
def fX9_keepsAct (g : PH) (a0 : Nat) : Option (Unit × PH) :=
  okb (isO g a0 9) ((getI g a0 9 19).bind fun x1 =>
  (if x1 = (20 : Int32) then (fX9_keepsAct_13 FUEL g a0 (133 : Int32)) else
  (fX9_keepsAct_52 g a0)))
theorem oX9_keepsAct {g : PH} {a0 : Nat} {q : (Unit × PH)} (h : fX9_keepsAct g a0 = some q) : isO g a0 9 = true := by unfold fX9_keepsAct at h; exact (okb_some h).1
theorem hyX9_keepsAct : hMet yX9_keepsAct RX9 cX9_keepsAct 2 none 0 := ⟨wd_1504, wd_1503, ws_110, wd_7, rfl, by decide +kernel, by decide +kernel, by decide +kernel⟩
set_option maxHeartbeats 4000000 in
set_option maxRecDepth 100000 in
theorem mX9_keepsAct (l : Launch) (E : HE) (sz : Nat) {g g' : PH} {a0 : Nat} {r : Unit} (hf : fX9_keepsAct g a0 = some (r, g')) : hM l E yX9_keepsAct cX9_keepsAct 2 none 0 0 0 0 sz g [.ref a0] none g' := by
  refine hM.of (by decide) (Nat.le_of_ble_eq_true rfl) (fun K hl C hin hsz => ?_)
  subst hl
  subst hsz
  have C : VC K E 2 cX9_keepsAct RX9 none := C
  unfold fX9_keepsAct at hf
  replace hf := okb_some hf
  obtain ⟨ho, hf⟩ := hf
  refine V.start (L' := [(0, .ref a0)]) rfl ?_
  refine V.aload_n (pc := 0) C dX9_keepsAct_0 0 rfl ?_
  replace hf := ob_some hf
  obtain ⟨x1, h2, hf⟩ := hf
  refine V.getI (pc := 1) C kX9 (k := 19) (by decide) wd_1069 h2 dX9_keepsAct_1 ?_
  refine V.bipush (pc := 4) C dX9_keepsAct_4 (v := (20 : Int32)) (by decide) ?_
  refine V.icmp_ne (pc := 6) (t := 52) C dX9_keepsAct_6 (by decide) (fun c3 => ?_) (fun c3 => ?_)
  · replace hf := ite_f c3 hf
    refine V.sub (L' := [(0, .ref a0)]) [0] rfl ?_
    exact bX9_keepsAct_52 C  hf
  replace hf := ite_t c3 hf
  refine V.sipush (pc := 9) C dX9_keepsAct_9 (v := (133 : Int32)) (by decide) ?_
  refine V.istore_n (pc := 12) (L' := [(1, .int (133 : Int32)), (0, .ref a0)]) C dX9_keepsAct_12 (by decide) rfl ?_
  refine V.sub (L' := [(0, .ref a0), (1, .int (133 : Int32))]) [1, 0] rfl ?_
  exact bX9_keepsAct_13 C  _ _ _ _ hf
theorem dX9_undo_0 : decode cX9_undo 0 = .ok (.aload_n 0, 1) := by decide +kernel
theorem dX9_undo_1 : decode cX9_undo 1 = .ok (.getfield 183, 3) := by decide +kernel
theorem dX9_undo_4 : decode cX9_undo 4 = .ok (.ifCond .ne 5, 3) := by decide +kernel
theorem dX9_undo_7 : decode cX9_undo 7 = .ok (.iconst (-1), 1) := by decide +kernel
theorem dX9_undo_8 : decode cX9_undo 8 = .ok (.ireturn, 1) := by decide +kernel
theorem dX9_undo_9 : decode cX9_undo 9 = .ok (.aload_n 0, 1) := by decide +kernel
theorem dX9_undo_10 : decode cX9_undo 10 = .ok (.dup, 1) := by decide +kernel
theorem dX9_undo_11 : decode cX9_undo 11 = .ok (.getfield 183, 3) := by decide +kernel
theorem dX9_undo_14 : decode cX9_undo 14 = .ok (.iconst 1, 1) := by decide +kernel
theorem dX9_undo_15 : decode cX9_undo 15 = .ok (.isub, 1) := by decide +kernel
theorem dX9_undo_16 : decode cX9_undo 16 = .ok (.putfield 183, 3) := by decide +kernel
theorem dX9_undo_19 : decode cX9_undo 19 = .ok (.iconst 0, 1) := by decide +kernel
theorem dX9_undo_20 : decode cX9_undo 20 = .ok (.istore_n 1, 1) := by decide +kernel
theorem dX9_undo_21 : decode cX9_undo 21 = .ok (.iload_n 1, 1) := by decide +kernel
theorem dX9_undo_22 : decode cX9_undo 22 = .ok (.sipush 133, 3) := by decide +kernel
theorem dX9_undo_25 : decode cX9_undo 25 = .ok (.if_icmp .ge 30, 3) := by decide +kernel
theorem dX9_undo_28 : decode cX9_undo 28 = .ok (.aload_n 0, 1) := by decide +kernel
theorem dX9_undo_29 : decode cX9_undo 29 = .ok (.getfield 32, 3) := by decide +kernel
theorem dX9_undo_32 : decode cX9_undo 32 = .ok (.iload_n 1, 1) := by decide +kernel
theorem dX9_undo_33 : decode cX9_undo 33 = .ok (.aload_n 0, 1) := by decide +kernel
theorem dX9_undo_34 : decode cX9_undo 34 = .ok (.getfield 38, 3) := by decide +kernel
theorem dX9_undo_37 : decode cX9_undo 37 = .ok (.sipush 133, 3) := by decide +kernel
theorem dX9_undo_40 : decode cX9_undo 40 = .ok (.aload_n 0, 1) := by decide +kernel
theorem dX9_undo_41 : decode cX9_undo 41 = .ok (.getfield 183, 3) := by decide +kernel
theorem dX9_undo_44 : decode cX9_undo 44 = .ok (.imul, 1) := by decide +kernel
theorem dX9_undo_45 : decode cX9_undo 45 = .ok (.iload_n 1, 1) := by decide +kernel
theorem dX9_undo_46 : decode cX9_undo 46 = .ok (.iadd, 1) := by decide +kernel
theorem dX9_undo_47 : decode cX9_undo 47 = .ok (.iaload, 1) := by decide +kernel
theorem dX9_undo_48 : decode cX9_undo 48 = .ok (.iastore, 1) := by decide +kernel
theorem dX9_undo_49 : decode cX9_undo 49 = .ok (.iinc 1 1, 3) := by decide +kernel
theorem dX9_undo_52 : decode cX9_undo 52 = .ok (.goto (-31), 3) := by decide +kernel
theorem dX9_undo_55 : decode cX9_undo 55 = .ok (.aload_n 0, 1) := by decide +kernel
theorem dX9_undo_56 : decode cX9_undo 56 = .ok (.getfield 183, 3) := by decide +kernel
theorem dX9_undo_59 : decode cX9_undo 59 = .ok (.ireturn, 1) := by decide +kernel
def fX9_undo_21  : Nat → PH → Nat → Int32 → Option (Int32 × PH)
  | 0, _, _, _ => none
  | n + 1, g, v0, v1 =>
  if (133 : Int32) ≤ v1 then ((getI g v0 9 19).bind fun x2 =>
  (some (x2, g))) else
  ((getR g v0 9 16).bind fun p4 =>
  ((getR g v0 9 18).bind fun p6 =>
  ((getI g v0 9 19).bind fun x8 =>
  ((ldI g p6 0 (((133 : Int32) * x8) + v1)).bind fun x10 =>
  ((stI g p4 0 v1 x10).bind fun g12 =>
  (fX9_undo_21 n g12 v0 (v1 + (1 : Int32))))))))
set_option maxHeartbeats 4000000 in
set_option maxRecDepth 100000 in
theorem bX9_undo_21 {K : HK} {E : HE} {r : Int32} {g' : PH}  (C : VC K E 2 cX9_undo RX9 (some .int))  : ∀ (n : Nat) (g : PH) (v0 : Nat) (v1 : Int32), fX9_undo_21  n g v0 v1 = some (r, g') → V K E (hRm 0 0 0 0) 2 (hZ K E (some (.int r)) g' 0 0) 0 0 (kS K) g 21 [(0, .ref v0), (1, .int v1)] [] := by
  intro n
  induction n with
  | zero =>
    intro g v0 v1 hf
    rw [fX9_undo_21] at hf
    cases hf
  | succ n ih =>
    intro g v0 v1 hf
    rw [fX9_undo_21] at hf
    refine V.iload_n (pc := 21) C dX9_undo_21 1 rfl ?_
    refine V.sipush (pc := 22) C dX9_undo_22 (v := (133 : Int32)) (by decide) ?_
    refine V.icmp_ge (pc := 25) (t := 55) C dX9_undo_25 (by decide) (fun c1 => ?_) (fun c1 => ?_)
    · replace hf := ite_t c1 hf
      refine V.aload_n (pc := 55) C dX9_undo_55 0 rfl ?_
      replace hf := ob_some hf
      obtain ⟨x2, h3, hf⟩ := hf
      refine V.getI (pc := 56) C kX9 (k := 19) (by decide) wd_1069 h3 dX9_undo_56 ?_
      obtain ⟨f1, f2⟩ := fin2 hf
      clear hf
      subst f1
      subst f2
      exact V.iret (pc := 59) C rfl dX9_undo_59
    replace hf := ite_f c1 hf
    refine V.aload_n (pc := 28) C dX9_undo_28 0 rfl ?_
    replace hf := ob_some hf
    obtain ⟨p4, h5, hf⟩ := hf
    refine V.getR (pc := 29) C kX9 (k := 16) (by decide) wd_1066 h5 dX9_undo_29 ?_
    refine V.iload_n (pc := 32) C dX9_undo_32 1 rfl ?_
    refine V.aload_n (pc := 33) C dX9_undo_33 0 rfl ?_
    replace hf := ob_some hf
    obtain ⟨p6, h7, hf⟩ := hf
    refine V.getR (pc := 34) C kX9 (k := 18) (by decide) wd_1068 h7 dX9_undo_34 ?_
    refine V.sipush (pc := 37) C dX9_undo_37 (v := (133 : Int32)) (by decide) ?_
    refine V.aload_n (pc := 40) C dX9_undo_40 0 rfl ?_
    replace hf := ob_some hf
    obtain ⟨x8, h9, hf⟩ := hf
    refine V.getI (pc := 41) C kX9 (k := 19) (by decide) wd_1069 h9 dX9_undo_41 ?_
    refine V.imul (pc := 44) C dX9_undo_44 ?_
    refine V.iload_n (pc := 45) C dX9_undo_45 1 rfl ?_
    refine V.iadd (pc := 46) C dX9_undo_46 ?_
    replace hf := ob_some hf
    obtain ⟨x10, h11, hf⟩ := hf
    refine V.iald (pc := 47) C h11 dX9_undo_47 ?_
    replace hf := ob_some hf
    obtain ⟨g12, h13, hf⟩ := hf
    refine V.iast (pc := 48) C h13 dX9_undo_48 ?_
    refine V.iinc (pc := 49) (v := (v1 + (1 : Int32))) (L' := [(1, .int (v1 + (1 : Int32))), (0, .ref v0)]) C dX9_undo_49 1 rfl rfl (by decide) rfl ?_
    refine V.goto (pc := 52) (t := 21) C dX9_undo_52 (by decide) ?_
    refine V.sub (L' := [(0, .ref v0), (1, .int (v1 + (1 : Int32)))]) [1, 0] rfl ?_
    exact ih _ _ _ hf
def fX9_undo (g : PH) (a0 : Nat) : Option (Int32 × PH) :=
  okb (isO g a0 9) ((getI g a0 9 19).bind fun x1 =>
  (if x1 = 0 then (some ((-1 : Int32), g)) else
  ((getI g a0 9 19).bind fun x4 =>
  ((putV g a0 9 19 (.int (x4 - (1 : Int32)))).bind fun g6 =>
  (fX9_undo_21 FUEL g6 a0 (0 : Int32))))))
theorem oX9_undo {g : PH} {a0 : Nat} {q : (Int32 × PH)} (h : fX9_undo g a0 = some q) : isO g a0 9 = true := by unfold fX9_undo at h; exact (okb_some h).1
theorem hyX9_undo : hMet yX9_undo RX9 cX9_undo 2 (some .int) 0 := ⟨wd_1492, wd_1490, wd_1491, wd_7, rfl, by decide +kernel, by decide +kernel, by decide +kernel⟩
set_option maxHeartbeats 4000000 in
set_option maxRecDepth 100000 in
theorem mX9_undo (l : Launch) (E : HE) (sz : Nat) {g g' : PH} {a0 : Nat} {r : Int32} (hf : fX9_undo g a0 = some (r, g')) : hM l E yX9_undo cX9_undo 2 (some .int) 0 0 0 0 sz g [.ref a0] (some (.int r)) g' := by
  refine hM.of (by decide) (Nat.le_of_ble_eq_true rfl) (fun K hl C hin hsz => ?_)
  subst hl
  subst hsz
  have C : VC K E 2 cX9_undo RX9 (some .int) := C
  unfold fX9_undo at hf
  replace hf := okb_some hf
  obtain ⟨ho, hf⟩ := hf
  refine V.start (L' := [(0, .ref a0)]) rfl ?_
  refine V.aload_n (pc := 0) C dX9_undo_0 0 rfl ?_
  replace hf := ob_some hf
  obtain ⟨x1, h2, hf⟩ := hf
  refine V.getI (pc := 1) C kX9 (k := 19) (by decide) wd_1069 h2 dX9_undo_1 ?_
  refine V.if_ne (pc := 4) (t := 9) C dX9_undo_4 (by decide) (fun c3 => ?_) (fun c3 => ?_)
  · replace hf := ite_f c3 hf
    refine V.aload_n (pc := 9) C dX9_undo_9 0 rfl ?_
    refine V.dup (pc := 10) C dX9_undo_10 rfl ?_
    replace hf := ob_some hf
    obtain ⟨x4, h5, hf⟩ := hf
    refine V.getI (pc := 11) C kX9 (k := 19) (by decide) wd_1069 h5 dX9_undo_11 ?_
    refine V.iconst (pc := 14) C dX9_undo_14 (v := (1 : Int32)) (by decide) ?_
    refine V.isub (pc := 15) C dX9_undo_15 ?_
    replace hf := ob_some hf
    obtain ⟨g6, h7, hf⟩ := hf
    refine V.putX (pc := 16) C kX9 (k := 19) (by decide) wd_1069 rfl rfl rfl h7 dX9_undo_16 ?_
    refine V.iconst (pc := 19) C dX9_undo_19 (v := (0 : Int32)) (by decide) ?_
    refine V.istore_n (pc := 20) (L' := [(1, .int (0 : Int32)), (0, .ref a0)]) C dX9_undo_20 (by decide) rfl ?_
    refine V.sub (L' := [(0, .ref a0), (1, .int (0 : Int32))]) [1, 0] rfl ?_
    exact bX9_undo_21 C  _ _ _ _ hf
  replace hf := ite_t c3 hf
  refine V.iconst (pc := 7) C dX9_undo_7 (v := (-1 : Int32)) (by decide) ?_
  obtain ⟨f1, f2⟩ := fin2 hf
  clear hf
  subst f1
  subst f2
  exact V.iret (pc := 8) C rfl dX9_undo_8
theorem dX9_isCell_0 : decode cX9_isCell 0 = .ok (.iload_n 1, 1) := by decide +kernel
theorem dX9_isCell_1 : decode cX9_isCell 1 = .ok (.ifCond .lt 15, 3) := by decide +kernel
theorem dX9_isCell_4 : decode cX9_isCell 4 = .ok (.iload_n 1, 1) := by decide +kernel
theorem dX9_isCell_5 : decode cX9_isCell 5 = .ok (.aload_n 0, 1) := by decide +kernel
theorem dX9_isCell_6 : decode cX9_isCell 6 = .ok (.getfield 180, 3) := by decide +kernel
theorem dX9_isCell_9 : decode cX9_isCell 9 = .ok (.if_icmp .ge 7, 3) := by decide +kernel
theorem dX9_isCell_12 : decode cX9_isCell 12 = .ok (.iconst 1, 1) := by decide +kernel
theorem dX9_isCell_13 : decode cX9_isCell 13 = .ok (.goto 4, 3) := by decide +kernel
theorem dX9_isCell_16 : decode cX9_isCell 16 = .ok (.iconst 0, 1) := by decide +kernel
theorem dX9_isCell_17 : decode cX9_isCell 17 = .ok (.ireturn, 1) := by decide +kernel
def fX9_isCell (g : PH) (a0 : Nat) (a1 : Int32) : Option (Int32 × PH) :=
  okb (isO g a0 9) (if a1 < 0 then (some ((0 : Int32), g)) else
  ((getI g a0 9 15).bind fun x2 =>
  (if x2 ≤ a1 then (some ((0 : Int32), g)) else
  (some ((1 : Int32), g)))))
theorem oX9_isCell {g : PH} {a0 : Nat} {a1 : Int32} {q : (Int32 × PH)} (h : fX9_isCell g a0 a1 = some q) : isO g a0 9 = true := by unfold fX9_isCell at h; exact (okb_some h).1
theorem hyX9_isCell : hMet yX9_isCell RX9 cX9_isCell 2 (some .boolean) 1 := ⟨wd_1500, wd_1499, ws_109, wd_7, rfl, by decide +kernel, by decide +kernel, by decide +kernel⟩
set_option maxHeartbeats 4000000 in
set_option maxRecDepth 100000 in
theorem mX9_isCell (l : Launch) (E : HE) (sz : Nat) {g g' : PH} {a0 : Nat} {a1 : Int32} {r : Int32} (hf : fX9_isCell g a0 a1 = some (r, g')) : hM l E yX9_isCell cX9_isCell 2 (some .boolean) 0 0 0 0 sz g [.ref a0, .int a1] (some (.int r)) g' := by
  refine hM.of (by decide) (Nat.le_of_ble_eq_true rfl) (fun K hl C hin hsz => ?_)
  subst hl
  subst hsz
  have C : VC K E 2 cX9_isCell RX9 (some .boolean) := C
  unfold fX9_isCell at hf
  replace hf := okb_some hf
  obtain ⟨ho, hf⟩ := hf
  refine V.start (L' := [(0, .ref a0), (1, .int a1)]) rfl ?_
  refine V.iload_n (pc := 0) C dX9_isCell_0 1 rfl ?_
  refine V.if_lt (pc := 1) (t := 16) C dX9_isCell_1 (by decide) (fun c1 => ?_) (fun c1 => ?_)
  · replace hf := ite_t c1 hf
    refine V.iconst (pc := 16) C dX9_isCell_16 (v := (0 : Int32)) (by decide) ?_
    obtain ⟨f1, f2⟩ := fin2 hf
    clear hf
    subst f1
    subst f2
    exact V.zret (pc := 17) C rfl rfl dX9_isCell_17
  replace hf := ite_f c1 hf
  refine V.iload_n (pc := 4) C dX9_isCell_4 1 rfl ?_
  refine V.aload_n (pc := 5) C dX9_isCell_5 0 rfl ?_
  replace hf := ob_some hf
  obtain ⟨x2, h3, hf⟩ := hf
  refine V.getI (pc := 6) C kX9 (k := 15) (by decide) wd_1065 h3 dX9_isCell_6 ?_
  refine V.icmp_ge (pc := 9) (t := 16) C dX9_isCell_9 (by decide) (fun c4 => ?_) (fun c4 => ?_)
  · replace hf := ite_t c4 hf
    refine V.iconst (pc := 16) C dX9_isCell_16 (v := (0 : Int32)) (by decide) ?_
    obtain ⟨f1, f2⟩ := fin2 hf
    clear hf
    subst f1
    subst f2
    exact V.zret (pc := 17) C rfl rfl dX9_isCell_17
  replace hf := ite_f c4 hf
  refine V.iconst (pc := 12) C dX9_isCell_12 (v := (1 : Int32)) (by decide) ?_
  refine V.goto (pc := 13) (t := 17) C dX9_isCell_13 (by decide) ?_
  obtain ⟨f1, f2⟩ := fin2 hf
  clear hf
  subst f1
  subst f2
  exact V.zret (pc := 17) C rfl rfl dX9_isCell_17
theorem dX9_put_0 : decode cX9_put 0 = .ok (.aload_n 0, 1) := by decide +kernel
theorem dX9_put_1 : decode cX9_put 1 = .ok (.iload_n 1, 1) := by decide +kernel
theorem dX9_put_2 : decode cX9_put 2 = .ok (.invokevirtual 255, 3) := by decide +kernel
theorem dX9_put_5 : decode cX9_put 5 = .ok (.ifCond .eq 40, 3) := by decide +kernel
theorem dX9_put_8 : decode cX9_put 8 = .ok (.aload_n 0, 1) := by decide +kernel
theorem dX9_put_9 : decode cX9_put 9 = .ok (.iload_n 3, 1) := by decide +kernel
theorem dX9_put_10 : decode cX9_put 10 = .ok (.invokevirtual 355, 3) := by decide +kernel
theorem dX9_put_13 : decode cX9_put 13 = .ok (.ifCond .eq 32, 3) := by decide +kernel
theorem dX9_put_16 : decode cX9_put 16 = .ok (.aload_n 0, 1) := by decide +kernel
theorem dX9_put_17 : decode cX9_put 17 = .ok (.iload_n 1, 1) := by decide +kernel
theorem dX9_put_18 : decode cX9_put 18 = .ok (.invokevirtual 237, 3) := by decide +kernel
theorem dX9_put_21 : decode cX9_put 21 = .ok (.ifCond .eq 19, 3) := by decide +kernel
theorem dX9_put_24 : decode cX9_put 24 = .ok (.aload_n 0, 1) := by decide +kernel
theorem dX9_put_25 : decode cX9_put 25 = .ok (.iload_n 2, 1) := by decide +kernel
theorem dX9_put_26 : decode cX9_put 26 = .ok (.invokevirtual 355, 3) := by decide +kernel
theorem dX9_put_29 : decode cX9_put 29 = .ok (.ifCond .eq 16, 3) := by decide +kernel
theorem dX9_put_32 : decode cX9_put 32 = .ok (.iload_n 2, 1) := by decide +kernel
theorem dX9_put_33 : decode cX9_put 33 = .ok (.iload_n 3, 1) := by decide +kernel
theorem dX9_put_34 : decode cX9_put 34 = .ok (.if_icmp .ne 13, 3) := by decide +kernel
theorem dX9_put_37 : decode cX9_put 37 = .ok (.goto 8, 3) := by decide +kernel
theorem dX9_put_40 : decode cX9_put 40 = .ok (.iload_n 2, 1) := by decide +kernel
theorem dX9_put_41 : decode cX9_put 41 = .ok (.iconst (-1), 1) := by decide +kernel
theorem dX9_put_42 : decode cX9_put 42 = .ok (.if_icmp .eq 5, 3) := by decide +kernel
theorem dX9_put_45 : decode cX9_put 45 = .ok (.iconst 0, 1) := by decide +kernel
theorem dX9_put_46 : decode cX9_put 46 = .ok (.ireturn, 1) := by decide +kernel
theorem dX9_put_47 : decode cX9_put 47 = .ok (.aload_n 0, 1) := by decide +kernel
theorem dX9_put_48 : decode cX9_put 48 = .ok (.invokevirtual 358, 3) := by decide +kernel
theorem dX9_put_51 : decode cX9_put 51 = .ok (.aload_n 0, 1) := by decide +kernel
theorem dX9_put_52 : decode cX9_put 52 = .ok (.iload_n 1, 1) := by decide +kernel
theorem dX9_put_53 : decode cX9_put 53 = .ok (.iload_n 2, 1) := by decide +kernel
theorem dX9_put_54 : decode cX9_put 54 = .ok (.iload_n 3, 1) := by decide +kernel
theorem dX9_put_55 : decode cX9_put 55 = .ok (.aload_n 0, 1) := by decide +kernel
theorem dX9_put_56 : decode cX9_put 56 = .ok (.getfield 32, 3) := by decide +kernel
theorem dX9_put_59 : decode cX9_put 59 = .ok (.iconst 0, 1) := by decide +kernel
theorem dX9_put_60 : decode cX9_put 60 = .ok (.iaload, 1) := by decide +kernel
theorem dX9_put_61 : decode cX9_put 61 = .ok (.invokevirtual 249, 3) := by decide +kernel
theorem dX9_put_64 : decode cX9_put 64 = .ok (.iconst 1, 1) := by decide +kernel
theorem dX9_put_65 : decode cX9_put 65 = .ok (.ireturn, 1) := by decide +kernel
def fX9_put_47  (g : PH) (v0 : Nat) (v1 : Int32) (v2 : Int32) (v3 : Int32) : Option (Int32 × PH) :=
  (fX9_keepsAct g v0).bind fun q1 =>
  ((getR q1.2 v0 9 16).bind fun p3 =>
  ((ldI q1.2 p3 0 (0 : Int32)).bind fun x5 =>
  ((fX9_tries q1.2 v0 v1 v2 v3 x5).bind fun q7 =>
  (some ((1 : Int32), q7.2)))))
set_option maxHeartbeats 4000000 in
set_option maxRecDepth 100000 in
theorem bX9_put_47 {K : HK} {E : HE} {r : Int32} {g' : PH}  (C : VC K E 4 cX9_put RX9 (some .boolean))  {g : PH} {v0 : Nat} {v1 : Int32} {v2 : Int32} {v3 : Int32} (hf : fX9_put_47  g v0 v1 v2 v3 = some (r, g')) : V K E (hRm 4 94 0 0) 4 (hZ K E (some (.int r)) g' 0 0) 0 0 (kS K) g 47 [(0, .ref v0), (1, .int v1), (2, .int v2), (3, .int v3)] [] := by
  unfold fX9_put_47 at hf
  refine V.aload_n (pc := 47) C dX9_put_47 0 rfl ?_
  replace hf := ob_some hf
  obtain ⟨q1, h2, hf⟩ := hf
  refine V.callV0v (pc := 48) C hyX9_keepsAct wd_1501 (mX9_keepsAct (r := q1.1) (g' := q1.2) K.2.1 E (kS K) h2) rfl rfl rfl (oX9_keepsAct h2) ⟨Nat.le_of_ble_eq_true rfl, Nat.le_of_ble_eq_true rfl⟩ (Nat.le_of_ble_eq_true rfl) dX9_put_48 ⟨Nat.zero_le _, Nat.zero_le _⟩ rfl ?_
  refine V.aload_n (pc := 51) C dX9_put_51 0 rfl ?_
  refine V.iload_n (pc := 52) C dX9_put_52 1 rfl ?_
  refine V.iload_n (pc := 53) C dX9_put_53 2 rfl ?_
  refine V.iload_n (pc := 54) C dX9_put_54 3 rfl ?_
  refine V.aload_n (pc := 55) C dX9_put_55 0 rfl ?_
  replace hf := ob_some hf
  obtain ⟨p3, h4, hf⟩ := hf
  refine V.getR (pc := 56) C kX9 (k := 16) (by decide) wd_1066 h4 dX9_put_56 ?_
  refine V.iconst (pc := 59) C dX9_put_59 (v := (0 : Int32)) (by decide) ?_
  replace hf := ob_some hf
  obtain ⟨x5, h6, hf⟩ := hf
  refine V.iald (pc := 60) C h6 dX9_put_60 ?_
  replace hf := ob_some hf
  obtain ⟨q7, h8, hf⟩ := hf
  refine V.callV0v (pc := 61) C hyX9_tries wd_1325 (mX9_tries (r := q7.1) (g' := q7.2) K.2.1 E (kS K) h8) rfl rfl rfl (oX9_tries h8) ⟨Nat.le_of_ble_eq_true rfl, Nat.le_of_ble_eq_true rfl⟩ (Nat.le_of_ble_eq_true rfl) dX9_put_61 ⟨Nat.zero_le _, Nat.zero_le _⟩ rfl ?_
  refine V.iconst (pc := 64) C dX9_put_64 (v := (1 : Int32)) (by decide) ?_
  obtain ⟨f1, f2⟩ := fin2 hf
  clear hf
  subst f1
  subst f2
  exact V.zret (pc := 65) C rfl rfl dX9_put_65
def fX9_put (g : PH) (a0 : Nat) (a1 : Int32) (a2 : Int32) (a3 : Int32) : Option (Int32 × PH) :=
  okb (isO g a0 9) ((fX9_isKind g a0 a1).bind fun q1 =>
  (if q1.1 = 0 then (some ((0 : Int32), q1.2)) else
  ((fX9_isCell q1.2 a0 a3).bind fun q4 =>
  (if q4.1 = 0 then (some ((0 : Int32), q4.2)) else
  ((fX9_isPair q4.2 a0 a1).bind fun q7 =>
  (if q7.1 = 0 then (if a2 = (-1 : Int32) then (fX9_put_47 q7.2 a0 a1 a2 a3) else
  (some ((0 : Int32), q7.2))) else
  ((fX9_isCell q7.2 a0 a2).bind fun q11 =>
  (if q11.1 = 0 then (some ((0 : Int32), q11.2)) else
  (if a2 = a3 then (some ((0 : Int32), q11.2)) else
  (fX9_put_47 q11.2 a0 a1 a2 a3))))))))))
theorem oX9_put {g : PH} {a0 : Nat} {a1 : Int32} {a2 : Int32} {a3 : Int32} {q : (Int32 × PH)} (h : fX9_put g a0 a1 a2 a3 = some q) : isO g a0 9 = true := by unfold fX9_put at h; exact (okb_some h).1
theorem hyX9_put : hMet yX9_put RX9 cX9_put 4 (some .boolean) 3 := ⟨wd_1496, wd_1494, wd_1495, wd_7, rfl, by decide +kernel, by decide +kernel, by decide +kernel⟩
set_option maxHeartbeats 4000000 in
set_option maxRecDepth 100000 in
theorem mX9_put (l : Launch) (E : HE) (sz : Nat) {g g' : PH} {a0 : Nat} {a1 : Int32} {a2 : Int32} {a3 : Int32} {r : Int32} (hf : fX9_put g a0 a1 a2 a3 = some (r, g')) : hM l E yX9_put cX9_put 4 (some .boolean) 4 94 0 0 sz g [.ref a0, .int a1, .int a2, .int a3] (some (.int r)) g' := by
  refine hM.of (by decide) (Nat.le_of_ble_eq_true rfl) (fun K hl C hin hsz => ?_)
  subst hl
  subst hsz
  have C : VC K E 4 cX9_put RX9 (some .boolean) := C
  unfold fX9_put at hf
  replace hf := okb_some hf
  obtain ⟨ho, hf⟩ := hf
  refine V.start (L' := [(0, .ref a0), (1, .int a1), (2, .int a2), (3, .int a3)]) rfl ?_
  refine V.aload_n (pc := 0) C dX9_put_0 0 rfl ?_
  refine V.iload_n (pc := 1) C dX9_put_1 1 rfl ?_
  replace hf := ob_some hf
  obtain ⟨q1, h2, hf⟩ := hf
  refine V.callV0i (pc := 2) C hyX9_isKind wd_1270 (mX9_isKind (r := q1.1) (g' := q1.2) K.2.1 E (kS K) h2) rfl rfl rfl (oX9_isKind h2) ⟨Nat.le_of_ble_eq_true rfl, Nat.le_of_ble_eq_true rfl⟩ (Nat.le_of_ble_eq_true rfl) dX9_put_2 ⟨Nat.zero_le _, Nat.zero_le _⟩ rfl ?_
  refine V.if_eq (pc := 5) (t := 45) C dX9_put_5 (by decide) (fun c3 => ?_) (fun c3 => ?_)
  · replace hf := ite_t c3 hf
    refine V.iconst (pc := 45) C dX9_put_45 (v := (0 : Int32)) (by decide) ?_
    obtain ⟨f1, f2⟩ := fin2 hf
    clear hf
    subst f1
    subst f2
    exact V.zret (pc := 46) C rfl rfl dX9_put_46
  replace hf := ite_f c3 hf
  refine V.aload_n (pc := 8) C dX9_put_8 0 rfl ?_
  refine V.iload_n (pc := 9) C dX9_put_9 3 rfl ?_
  replace hf := ob_some hf
  obtain ⟨q4, h5, hf⟩ := hf
  refine V.callV0i (pc := 10) C hyX9_isCell wd_1497 (mX9_isCell (r := q4.1) (g' := q4.2) K.2.1 E (kS K) h5) rfl rfl rfl (oX9_isCell h5) ⟨Nat.le_of_ble_eq_true rfl, Nat.le_of_ble_eq_true rfl⟩ (Nat.le_of_ble_eq_true rfl) dX9_put_10 ⟨Nat.zero_le _, Nat.zero_le _⟩ rfl ?_
  refine V.if_eq (pc := 13) (t := 45) C dX9_put_13 (by decide) (fun c6 => ?_) (fun c6 => ?_)
  · replace hf := ite_t c6 hf
    refine V.iconst (pc := 45) C dX9_put_45 (v := (0 : Int32)) (by decide) ?_
    obtain ⟨f1, f2⟩ := fin2 hf
    clear hf
    subst f1
    subst f2
    exact V.zret (pc := 46) C rfl rfl dX9_put_46
  replace hf := ite_f c6 hf
  refine V.aload_n (pc := 16) C dX9_put_16 0 rfl ?_
  refine V.iload_n (pc := 17) C dX9_put_17 1 rfl ?_
  replace hf := ob_some hf
  obtain ⟨q7, h8, hf⟩ := hf
  refine V.callV0i (pc := 18) C hyX9_isPair wd_1275 (mX9_isPair (r := q7.1) (g' := q7.2) K.2.1 E (kS K) h8) rfl rfl rfl (oX9_isPair h8) ⟨Nat.le_of_ble_eq_true rfl, Nat.le_of_ble_eq_true rfl⟩ (Nat.le_of_ble_eq_true rfl) dX9_put_18 ⟨Nat.zero_le _, Nat.zero_le _⟩ rfl ?_
  refine V.if_eq (pc := 21) (t := 40) C dX9_put_21 (by decide) (fun c9 => ?_) (fun c9 => ?_)
  · replace hf := ite_t c9 hf
    refine V.iload_n (pc := 40) C dX9_put_40 2 rfl ?_
    refine V.iconst (pc := 41) C dX9_put_41 (v := (-1 : Int32)) (by decide) ?_
    refine V.icmp_eq (pc := 42) (t := 47) C dX9_put_42 (by decide) (fun c10 => ?_) (fun c10 => ?_)
    · replace hf := ite_t c10 hf
      refine V.sub (L' := [(0, .ref a0), (1, .int a1), (2, .int a2), (3, .int a3)]) [0, 1, 2, 3] rfl ?_
      exact bX9_put_47 C  hf
    replace hf := ite_f c10 hf
    refine V.iconst (pc := 45) C dX9_put_45 (v := (0 : Int32)) (by decide) ?_
    obtain ⟨f1, f2⟩ := fin2 hf
    clear hf
    subst f1
    subst f2
    exact V.zret (pc := 46) C rfl rfl dX9_put_46
  replace hf := ite_f c9 hf
  refine V.aload_n (pc := 24) C dX9_put_24 0 rfl ?_
  refine V.iload_n (pc := 25) C dX9_put_25 2 rfl ?_
  replace hf := ob_some hf
  obtain ⟨q11, h12, hf⟩ := hf
  refine V.callV0i (pc := 26) C hyX9_isCell wd_1497 (mX9_isCell (r := q11.1) (g' := q11.2) K.2.1 E (kS K) h12) rfl rfl rfl (oX9_isCell h12) ⟨Nat.le_of_ble_eq_true rfl, Nat.le_of_ble_eq_true rfl⟩ (Nat.le_of_ble_eq_true rfl) dX9_put_26 ⟨Nat.zero_le _, Nat.zero_le _⟩ rfl ?_
  refine V.if_eq (pc := 29) (t := 45) C dX9_put_29 (by decide) (fun c13 => ?_) (fun c13 => ?_)
  · replace hf := ite_t c13 hf
    refine V.iconst (pc := 45) C dX9_put_45 (v := (0 : Int32)) (by decide) ?_
    obtain ⟨f1, f2⟩ := fin2 hf
    clear hf
    subst f1
    subst f2
    exact V.zret (pc := 46) C rfl rfl dX9_put_46
  replace hf := ite_f c13 hf
  refine V.iload_n (pc := 32) C dX9_put_32 2 rfl ?_
  refine V.iload_n (pc := 33) C dX9_put_33 3 rfl ?_
  refine V.icmp_ne (pc := 34) (t := 47) C dX9_put_34 (by decide) (fun c14 => ?_) (fun c14 => ?_)
  · replace hf := ite_f c14 hf
    refine V.sub (L' := [(0, .ref a0), (1, .int a1), (2, .int a2), (3, .int a3)]) [0, 1, 2, 3] rfl ?_
    exact bX9_put_47 C  hf
  replace hf := ite_t c14 hf
  refine V.goto (pc := 37) (t := 45) C dX9_put_37 (by decide) ?_
  refine V.iconst (pc := 45) C dX9_put_45 (v := (0 : Int32)) (by decide) ?_
  obtain ⟨f1, f2⟩ := fin2 hf
  clear hf
  subst f1
  subst f2
  exact V.zret (pc := 46) C rfl rfl dX9_put_46
theorem dX9_heal_0 : decode cX9_heal 0 = .ok (.aload_n 0, 1) := by decide +kernel
theorem dX9_heal_1 : decode cX9_heal 1 = .ok (.getfield 32, 3) := by decide +kernel
theorem dX9_heal_4 : decode cX9_heal 4 = .ok (.iconst 1, 1) := by decide +kernel
theorem dX9_heal_5 : decode cX9_heal 5 = .ok (.iaload, 1) := by decide +kernel
theorem dX9_heal_6 : decode cX9_heal 6 = .ok (.ifCond .ge 5, 3) := by decide +kernel
theorem dX9_heal_9 : decode cX9_heal 9 = .ok (.iconst 0, 1) := by decide +kernel
theorem dX9_heal_10 : decode cX9_heal 10 = .ok (.ireturn, 1) := by decide +kernel
theorem dX9_heal_11 : decode cX9_heal 11 = .ok (.aload_n 0, 1) := by decide +kernel
theorem dX9_heal_12 : decode cX9_heal 12 = .ok (.invokevirtual 358, 3) := by decide +kernel
theorem dX9_heal_15 : decode cX9_heal 15 = .ok (.aload_n 0, 1) := by decide +kernel
theorem dX9_heal_16 : decode cX9_heal 16 = .ok (.getfield 32, 3) := by decide +kernel
theorem dX9_heal_19 : decode cX9_heal 19 = .ok (.iconst 1, 1) := by decide +kernel
theorem dX9_heal_20 : decode cX9_heal 20 = .ok (.iconst (-1), 1) := by decide +kernel
theorem dX9_heal_21 : decode cX9_heal 21 = .ok (.iastore, 1) := by decide +kernel
theorem dX9_heal_22 : decode cX9_heal 22 = .ok (.aload_n 0, 1) := by decide +kernel
theorem dX9_heal_23 : decode cX9_heal 23 = .ok (.getfield 32, 3) := by decide +kernel
theorem dX9_heal_26 : decode cX9_heal 26 = .ok (.iconst 2, 1) := by decide +kernel
theorem dX9_heal_27 : decode cX9_heal 27 = .ok (.iconst (-1), 1) := by decide +kernel
theorem dX9_heal_28 : decode cX9_heal 28 = .ok (.iastore, 1) := by decide +kernel
theorem dX9_heal_29 : decode cX9_heal 29 = .ok (.aload_n 0, 1) := by decide +kernel
theorem dX9_heal_30 : decode cX9_heal 30 = .ok (.getfield 32, 3) := by decide +kernel
theorem dX9_heal_33 : decode cX9_heal 33 = .ok (.iconst 3, 1) := by decide +kernel
theorem dX9_heal_34 : decode cX9_heal 34 = .ok (.iconst (-1), 1) := by decide +kernel
theorem dX9_heal_35 : decode cX9_heal 35 = .ok (.iastore, 1) := by decide +kernel
theorem dX9_heal_36 : decode cX9_heal 36 = .ok (.iconst 1, 1) := by decide +kernel
theorem dX9_heal_37 : decode cX9_heal 37 = .ok (.ireturn, 1) := by decide +kernel
def fX9_heal (g : PH) (a0 : Nat) : Option (Int32 × PH) :=
  okb (isO g a0 9) ((getR g a0 9 16).bind fun p1 =>
  ((ldI g p1 0 (1 : Int32)).bind fun x3 =>
  (if 0 ≤ x3 then ((fX9_keepsAct g a0).bind fun q6 =>
  ((getR q6.2 a0 9 16).bind fun p8 =>
  ((stI q6.2 p8 0 (1 : Int32) (-1 : Int32)).bind fun g10 =>
  ((getR g10 a0 9 16).bind fun p12 =>
  ((stI g10 p12 0 (2 : Int32) (-1 : Int32)).bind fun g14 =>
  ((getR g14 a0 9 16).bind fun p16 =>
  ((stI g14 p16 0 (3 : Int32) (-1 : Int32)).bind fun g18 =>
  (some ((1 : Int32), g18))))))))) else
  (some ((0 : Int32), g)))))
theorem oX9_heal {g : PH} {a0 : Nat} {q : (Int32 × PH)} (h : fX9_heal g a0 = some q) : isO g a0 9 = true := by unfold fX9_heal at h; exact (okb_some h).1
theorem hyX9_heal : hMet yX9_heal RX9 cX9_heal 1 (some .boolean) 0 := ⟨wd_1508, wd_1506, wd_1507, wd_7, rfl, by decide +kernel, by decide +kernel, by decide +kernel⟩
set_option maxHeartbeats 4000000 in
set_option maxRecDepth 100000 in
theorem mX9_heal (l : Launch) (E : HE) (sz : Nat) {g g' : PH} {a0 : Nat} {r : Int32} (hf : fX9_heal g a0 = some (r, g')) : hM l E yX9_heal cX9_heal 1 (some .boolean) 1 21 0 0 sz g [.ref a0] (some (.int r)) g' := by
  refine hM.of (by decide) (Nat.le_of_ble_eq_true rfl) (fun K hl C hin hsz => ?_)
  subst hl
  subst hsz
  have C : VC K E 1 cX9_heal RX9 (some .boolean) := C
  unfold fX9_heal at hf
  replace hf := okb_some hf
  obtain ⟨ho, hf⟩ := hf
  refine V.start (L' := [(0, .ref a0)]) rfl ?_
  refine V.aload_n (pc := 0) C dX9_heal_0 0 rfl ?_
  replace hf := ob_some hf
  obtain ⟨p1, h2, hf⟩ := hf
  refine V.getR (pc := 1) C kX9 (k := 16) (by decide) wd_1066 h2 dX9_heal_1 ?_
  refine V.iconst (pc := 4) C dX9_heal_4 (v := (1 : Int32)) (by decide) ?_
  replace hf := ob_some hf
  obtain ⟨x3, h4, hf⟩ := hf
  refine V.iald (pc := 5) C h4 dX9_heal_5 ?_
  refine V.if_ge (pc := 6) (t := 11) C dX9_heal_6 (by decide) (fun c5 => ?_) (fun c5 => ?_)
  · replace hf := ite_t c5 hf
    refine V.aload_n (pc := 11) C dX9_heal_11 0 rfl ?_
    replace hf := ob_some hf
    obtain ⟨q6, h7, hf⟩ := hf
    refine V.callV0v (pc := 12) C hyX9_keepsAct wd_1501 (mX9_keepsAct (r := q6.1) (g' := q6.2) K.2.1 E (kS K) h7) rfl rfl rfl (oX9_keepsAct h7) ⟨Nat.le_of_ble_eq_true rfl, Nat.le_of_ble_eq_true rfl⟩ (Nat.le_of_ble_eq_true rfl) dX9_heal_12 ⟨Nat.zero_le _, Nat.zero_le _⟩ rfl ?_
    refine V.aload_n (pc := 15) C dX9_heal_15 0 rfl ?_
    replace hf := ob_some hf
    obtain ⟨p8, h9, hf⟩ := hf
    refine V.getR (pc := 16) C kX9 (k := 16) (by decide) wd_1066 h9 dX9_heal_16 ?_
    refine V.iconst (pc := 19) C dX9_heal_19 (v := (1 : Int32)) (by decide) ?_
    refine V.iconst (pc := 20) C dX9_heal_20 (v := (-1 : Int32)) (by decide) ?_
    replace hf := ob_some hf
    obtain ⟨g10, h11, hf⟩ := hf
    refine V.iast (pc := 21) C h11 dX9_heal_21 ?_
    refine V.aload_n (pc := 22) C dX9_heal_22 0 rfl ?_
    replace hf := ob_some hf
    obtain ⟨p12, h13, hf⟩ := hf
    refine V.getR (pc := 23) C kX9 (k := 16) (by decide) wd_1066 h13 dX9_heal_23 ?_
    refine V.iconst (pc := 26) C dX9_heal_26 (v := (2 : Int32)) (by decide) ?_
    refine V.iconst (pc := 27) C dX9_heal_27 (v := (-1 : Int32)) (by decide) ?_
    replace hf := ob_some hf
    obtain ⟨g14, h15, hf⟩ := hf
    refine V.iast (pc := 28) C h15 dX9_heal_28 ?_
    refine V.aload_n (pc := 29) C dX9_heal_29 0 rfl ?_
    replace hf := ob_some hf
    obtain ⟨p16, h17, hf⟩ := hf
    refine V.getR (pc := 30) C kX9 (k := 16) (by decide) wd_1066 h17 dX9_heal_30 ?_
    refine V.iconst (pc := 33) C dX9_heal_33 (v := (3 : Int32)) (by decide) ?_
    refine V.iconst (pc := 34) C dX9_heal_34 (v := (-1 : Int32)) (by decide) ?_
    replace hf := ob_some hf
    obtain ⟨g18, h19, hf⟩ := hf
    refine V.iast (pc := 35) C h19 dX9_heal_35 ?_
    refine V.iconst (pc := 36) C dX9_heal_36 (v := (1 : Int32)) (by decide) ?_
    obtain ⟨f1, f2⟩ := fin2 hf
    clear hf
    subst f1
    subst f2
    exact V.zret (pc := 37) C rfl rfl dX9_heal_37
  replace hf := ite_f c5 hf
  refine V.iconst (pc := 9) C dX9_heal_9 (v := (0 : Int32)) (by decide) ?_
  obtain ⟨f1, f2⟩ := fin2 hf
  clear hf
  subst f1
  subst f2
  exact V.zret (pc := 10) C rfl rfl dX9_heal_10
theorem dX9_tell_0 : decode cX9_tell 0 = .ok (.iload_n 1, 1) := by decide +kernel
theorem dX9_tell_1 : decode cX9_tell 1 = .ok (.i2l, 1) := by decide +kernel
theorem dX9_tell_2 : decode cX9_tell 2 = .ok (.lconst 0, 1) := by decide +kernel
theorem dX9_tell_3 : decode cX9_tell 3 = .ok (.iconst 1, 1) := by decide +kernel
theorem dX9_tell_4 : decode cX9_tell 4 = .ok (.aload_n 0, 1) := by decide +kernel
theorem dX9_tell_5 : decode cX9_tell 5 = .ok (.getfield 180, 3) := by decide +kernel
theorem dX9_tell_8 : decode cX9_tell 8 = .ok (.ishl, 1) := by decide +kernel
theorem dX9_tell_9 : decode cX9_tell 9 = .ok (.iconst 1, 1) := by decide +kernel
theorem dX9_tell_10 : decode cX9_tell 10 = .ok (.isub, 1) := by decide +kernel
theorem dX9_tell_11 : decode cX9_tell 11 = .ok (.i2l, 1) := by decide +kernel
theorem dX9_tell_12 : decode cX9_tell 12 = .ok (.invokestatic 86, 3) := by decide +kernel
theorem dX9_tell_15 : decode cX9_tell 15 = .ok (.ifCond .ne 5, 3) := by decide +kernel
theorem dX9_tell_18 : decode cX9_tell 18 = .ok (.iconst (-1), 1) := by decide +kernel
theorem dX9_tell_19 : decode cX9_tell 19 = .ok (.ireturn, 1) := by decide +kernel
theorem dX9_tell_20 : decode cX9_tell 20 = .ok (.aload_n 0, 1) := by decide +kernel
theorem dX9_tell_21 : decode cX9_tell 21 = .ok (.invokevirtual 358, 3) := by decide +kernel
theorem dX9_tell_24 : decode cX9_tell 24 = .ok (.aload_n 0, 1) := by decide +kernel
theorem dX9_tell_25 : decode cX9_tell 25 = .ok (.getfield 32, 3) := by decide +kernel
theorem dX9_tell_28 : decode cX9_tell 28 = .ok (.iconst 0, 1) := by decide +kernel
theorem dX9_tell_29 : decode cX9_tell 29 = .ok (.iaload, 1) := by decide +kernel
theorem dX9_tell_30 : decode cX9_tell 30 = .ok (.istore_n 2, 1) := by decide +kernel
theorem dX9_tell_31 : decode cX9_tell 31 = .ok (.aload_n 0, 1) := by decide +kernel
theorem dX9_tell_32 : decode cX9_tell 32 = .ok (.getfield 32, 3) := by decide +kernel
theorem dX9_tell_35 : decode cX9_tell 35 = .ok (.iconst 0, 1) := by decide +kernel
theorem dX9_tell_36 : decode cX9_tell 36 = .ok (.iload_n 1, 1) := by decide +kernel
theorem dX9_tell_37 : decode cX9_tell 37 = .ok (.iastore, 1) := by decide +kernel
theorem dX9_tell_38 : decode cX9_tell 38 = .ok (.aload_n 0, 1) := by decide +kernel
theorem dX9_tell_39 : decode cX9_tell 39 = .ok (.invokevirtual 207, 3) := by decide +kernel
theorem dX9_tell_42 : decode cX9_tell 42 = .ok (.iload_n 2, 1) := by decide +kernel
theorem dX9_tell_43 : decode cX9_tell 43 = .ok (.ireturn, 1) := by decide +kernel
def fX9_tell (g : PH) (a0 : Nat) (a1 : Int32) : Option (Int32 × PH) :=
  okb (isO g a0 9) ((getI g a0 9 15).bind fun x1 =>
  ((fX9_isIn g a1.toInt64 (0 : Int64) (((1 : Int32) <<< (x1 &&& 31)) - (1 : Int32)).toInt64).bind fun q3 =>
  (if q3.1 = 0 then (some ((-1 : Int32), q3.2)) else
  ((fX9_keepsAct q3.2 a0).bind fun q6 =>
  ((getR q6.2 a0 9 16).bind fun p8 =>
  ((ldI q6.2 p8 0 (0 : Int32)).bind fun x10 =>
  ((getR q6.2 a0 9 16).bind fun p12 =>
  ((stI q6.2 p12 0 (0 : Int32) a1).bind fun g14 =>
  ((fX9_settles g14 a0).bind fun q16 =>
  (some (x10, q16.2)))))))))))
theorem oX9_tell {g : PH} {a0 : Nat} {a1 : Int32} {q : (Int32 × PH)} (h : fX9_tell g a0 a1 = some q) : isO g a0 9 = true := by unfold fX9_tell at h; exact (okb_some h).1
theorem hyX9_tell : hMet yX9_tell RX9 cX9_tell 3 (some .int) 1 := ⟨wd_1512, wd_1510, wd_1511, wd_7, rfl, by decide +kernel, by decide +kernel, by decide +kernel⟩
set_option maxHeartbeats 4000000 in
set_option maxRecDepth 100000 in
theorem mX9_tell (l : Launch) (E : HE) (sz : Nat) {g g' : PH} {a0 : Nat} {a1 : Int32} {r : Int32} (hf : fX9_tell g a0 a1 = some (r, g')) : hM l E yX9_tell cX9_tell 3 (some .int) 3 70 0 0 sz g [.ref a0, .int a1] (some (.int r)) g' := by
  refine hM.of (by decide) (Nat.le_of_ble_eq_true rfl) (fun K hl C hin hsz => ?_)
  subst hl
  subst hsz
  have C : VC K E 3 cX9_tell RX9 (some .int) := C
  unfold fX9_tell at hf
  replace hf := okb_some hf
  obtain ⟨ho, hf⟩ := hf
  refine V.start (L' := [(0, .ref a0), (1, .int a1)]) rfl ?_
  refine V.iload_n (pc := 0) C dX9_tell_0 1 rfl ?_
  refine V.i2l (pc := 1) C dX9_tell_1 ?_
  refine V.lconst (pc := 2) C dX9_tell_2 (v := (0 : Int64)) (by decide) ?_
  refine V.iconst (pc := 3) C dX9_tell_3 (v := (1 : Int32)) (by decide) ?_
  refine V.aload_n (pc := 4) C dX9_tell_4 0 rfl ?_
  replace hf := ob_some hf
  obtain ⟨x1, h2, hf⟩ := hf
  refine V.getI (pc := 5) C kX9 (k := 15) (by decide) wd_1065 h2 dX9_tell_5 ?_
  refine V.ishl (pc := 8) C dX9_tell_8 ?_
  refine V.iconst (pc := 9) C dX9_tell_9 (v := (1 : Int32)) (by decide) ?_
  refine V.isub (pc := 10) C dX9_tell_10 ?_
  refine V.i2l (pc := 11) C dX9_tell_11 ?_
  replace hf := ob_some hf
  obtain ⟨q3, h4, hf⟩ := hf
  refine V.callS0i (pc := 12) C hyX9_isIn wd_1182 (mX9_isIn (r := q3.1) (g' := q3.2) K.2.1 E (kS K) h4) rfl ⟨Nat.le_of_ble_eq_true rfl, Nat.le_of_ble_eq_true rfl⟩ (Nat.le_of_ble_eq_true rfl) dX9_tell_12 ⟨Nat.zero_le _, Nat.zero_le _⟩ rfl ?_
  refine V.if_ne (pc := 15) (t := 20) C dX9_tell_15 (by decide) (fun c5 => ?_) (fun c5 => ?_)
  · replace hf := ite_f c5 hf
    refine V.aload_n (pc := 20) C dX9_tell_20 0 rfl ?_
    replace hf := ob_some hf
    obtain ⟨q6, h7, hf⟩ := hf
    refine V.callV0v (pc := 21) C hyX9_keepsAct wd_1501 (mX9_keepsAct (r := q6.1) (g' := q6.2) K.2.1 E (kS K) h7) rfl rfl rfl (oX9_keepsAct h7) ⟨Nat.le_of_ble_eq_true rfl, Nat.le_of_ble_eq_true rfl⟩ (Nat.le_of_ble_eq_true rfl) dX9_tell_21 ⟨Nat.zero_le _, Nat.zero_le _⟩ rfl ?_
    refine V.aload_n (pc := 24) C dX9_tell_24 0 rfl ?_
    replace hf := ob_some hf
    obtain ⟨p8, h9, hf⟩ := hf
    refine V.getR (pc := 25) C kX9 (k := 16) (by decide) wd_1066 h9 dX9_tell_25 ?_
    refine V.iconst (pc := 28) C dX9_tell_28 (v := (0 : Int32)) (by decide) ?_
    replace hf := ob_some hf
    obtain ⟨x10, h11, hf⟩ := hf
    refine V.iald (pc := 29) C h11 dX9_tell_29 ?_
    refine V.istore_n (pc := 30) (L' := [(2, .int x10), (0, .ref a0), (1, .int a1)]) C dX9_tell_30 (by decide) rfl ?_
    refine V.aload_n (pc := 31) C dX9_tell_31 1 rfl ?_
    replace hf := ob_some hf
    obtain ⟨p12, h13, hf⟩ := hf
    refine V.getR (pc := 32) C kX9 (k := 16) (by decide) wd_1066 h13 dX9_tell_32 ?_
    refine V.iconst (pc := 35) C dX9_tell_35 (v := (0 : Int32)) (by decide) ?_
    refine V.iload_n (pc := 36) C dX9_tell_36 2 rfl ?_
    replace hf := ob_some hf
    obtain ⟨g14, h15, hf⟩ := hf
    refine V.iast (pc := 37) C h15 dX9_tell_37 ?_
    refine V.aload_n (pc := 38) C dX9_tell_38 1 rfl ?_
    replace hf := ob_some hf
    obtain ⟨q16, h17, hf⟩ := hf
    refine V.callV0v (pc := 39) C hyX9_settles wd_1329 (mX9_settles (r := q16.1) (g' := q16.2) K.2.1 E (kS K) h17) rfl rfl rfl (oX9_settles h17) ⟨Nat.le_of_ble_eq_true rfl, Nat.le_of_ble_eq_true rfl⟩ (Nat.le_of_ble_eq_true rfl) dX9_tell_39 ⟨Nat.zero_le _, Nat.zero_le _⟩ rfl ?_
    refine V.iload_n (pc := 42) C dX9_tell_42 0 rfl ?_
    obtain ⟨f1, f2⟩ := fin2 hf
    clear hf
    subst f1
    subst f2
    exact V.iret (pc := 43) C rfl dX9_tell_43
  replace hf := ite_t c5 hf
  refine V.iconst (pc := 18) C dX9_tell_18 (v := (-1 : Int32)) (by decide) ?_
  obtain ⟨f1, f2⟩ := fin2 hf
  clear hf
  subst f1
  subst f2
  exact V.iret (pc := 19) C rfl dX9_tell_19
