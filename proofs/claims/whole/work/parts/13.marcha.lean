theorem dX2_init_0 : decode cX2_init 0 = .ok (.aload_n 0, 1) := by decide +kernel
theorem dX2_init_1 : decode cX2_init 1 = .ok (.invokespecial 3, 3) := by decide +kernel
theorem dX2_init_4 : decode cX2_init 4 = .ok (.aload_n 0, 1) := by decide +kernel
theorem dX2_init_5 : decode cX2_init 5 = .ok (.iconst 0, 1) := by decide +kernel
theorem dX2_init_6 : decode cX2_init 6 = .ok (.putfield 9, 3) := by decide +kernel
theorem dX2_init_9 : decode cX2_init 9 = .ok (.aload_n 0, 1) := by decide +kernel
theorem dX2_init_10 : decode cX2_init 10 = .ok (.iconst 0, 1) := by decide +kernel
theorem dX2_init_11 : decode cX2_init 11 = .ok (.putfield 15, 3) := by decide +kernel
theorem dX2_init_14 : decode cX2_init 14 = .ok (.aload_n 0, 1) := by decide +kernel
theorem dX2_init_15 : decode cX2_init 15 = .ok (.iconst 0, 1) := by decide +kernel
theorem dX2_init_16 : decode cX2_init 16 = .ok (.putfield 18, 3) := by decide +kernel
theorem dX2_init_19 : decode cX2_init 19 = .ok (.aload_n 0, 1) := by decide +kernel
theorem dX2_init_20 : decode cX2_init 20 = .ok (.iconst 0, 1) := by decide +kernel
theorem dX2_init_21 : decode cX2_init 21 = .ok (.putfield 21, 3) := by decide +kernel
theorem dX2_init_24 : decode cX2_init 24 = .ok (.aload_n 0, 1) := by decide +kernel
theorem dX2_init_25 : decode cX2_init 25 = .ok (.iconst (-1), 1) := by decide +kernel
theorem dX2_init_26 : decode cX2_init 26 = .ok (.putfield 24, 3) := by decide +kernel
theorem dX2_init_29 : decode cX2_init 29 = .ok (.aload_n 0, 1) := by decide +kernel
theorem dX2_init_30 : decode cX2_init 30 = .ok (.bipush 8, 2) := by decide +kernel
theorem dX2_init_32 : decode cX2_init 32 = .ok (.newarray .int, 2) := by decide +kernel
theorem dX2_init_34 : decode cX2_init 34 = .ok (.putfield 27, 3) := by decide +kernel
theorem dX2_init_37 : decode cX2_init 37 = .ok (.aload_n 0, 1) := by decide +kernel
theorem dX2_init_38 : decode cX2_init 38 = .ok (.bipush 8, 2) := by decide +kernel
theorem dX2_init_40 : decode cX2_init 40 = .ok (.newarray .int, 2) := by decide +kernel
theorem dX2_init_42 : decode cX2_init 42 = .ok (.putfield 31, 3) := by decide +kernel
theorem dX2_init_45 : decode cX2_init 45 = .ok (.aload_n 0, 1) := by decide +kernel
theorem dX2_init_46 : decode cX2_init 46 = .ok (.bipush 8, 2) := by decide +kernel
theorem dX2_init_48 : decode cX2_init 48 = .ok (.newarray .int, 2) := by decide +kernel
theorem dX2_init_50 : decode cX2_init 50 = .ok (.putfield 34, 3) := by decide +kernel
theorem dX2_init_53 : decode cX2_init 53 = .ok (.aload_n 0, 1) := by decide +kernel
theorem dX2_init_54 : decode cX2_init 54 = .ok (.bipush 48, 2) := by decide +kernel
theorem dX2_init_56 : decode cX2_init 56 = .ok (.newarray .int, 2) := by decide +kernel
theorem dX2_init_58 : decode cX2_init 58 = .ok (.putfield 37, 3) := by decide +kernel
theorem dX2_init_61 : decode cX2_init 61 = .ok (.return_, 1) := by decide +kernel
def fX2_init (sz : Nat) (g : PH) (a0 : Nat) : Option (Unit × PH × Nat × Nat) :=
  (putV g a0 2 0 (.int (0 : Int32))).bind fun g1 =>
  ((putV g1 a0 2 1 (.int (0 : Int32))).bind fun g3 =>
  ((putV g3 a0 2 2 (.int (0 : Int32))).bind fun g5 =>
  ((putV g5 a0 2 3 (.int (0 : Int32))).bind fun g7 =>
  ((putV g7 a0 2 4 (.int (-1 : Int32))).bind fun g9 =>
  (bmp 1 8 ((putV (hup g9 sz (.inl (0, 8, .inl (fun _ => 0)))) a0 2 5 (.ref sz)).bind fun g16 =>
  (bmp 1 8 ((putV (hup g16 (sz + 1) (.inl (0, 8, .inl (fun _ => 0)))) a0 2 6 (.ref (sz + 1))).bind fun g23 =>
  (bmp 1 8 ((putV (hup g23 ((sz + 1) + 1) (.inl (0, 8, .inl (fun _ => 0)))) a0 2 7 (.ref ((sz + 1) + 1))).bind fun g30 =>
  (bmp 1 48 ((putV (hup g30 (((sz + 1) + 1) + 1) (.inl (0, 48, .inl (fun _ => 0)))) a0 2 8 (.ref (((sz + 1) + 1) + 1))).bind fun g37 =>
  (some ((), g37, 0, 0))))))))))))))
theorem hyX2_init : hMetI yX2_init cX2_init 1 0 := ⟨wd_442, wd_441, wd_14, rfl, by decide +kernel, by decide +kernel, by decide +kernel⟩
set_option maxHeartbeats 4000000 in
set_option maxRecDepth 100000 in
theorem mX2_init (l : Launch) (E : HE) (sz : Nat) {g g' : PH} {a0 : Nat} {r : Unit} {mc ms : Nat} (hf : fX2_init sz g a0 = some (r, g', mc, ms)) : hM l E yX2_init cX2_init 1 none 1 20 mc ms sz g [.ref a0] none g' := by
  refine hM.of (by decide) (Nat.le_of_ble_eq_true rfl) (fun K hl C hin hsz => ?_)
  subst hl
  subst hsz
  have C : VC K E 1 cX2_init RX2 none := C
  have hin := hin rfl
  unfold fX2_init at hf
  have hkS : K.2.2.2.1.heap.size = kS K := rfl
  have e1 : 0 + mc = mc := Nat.zero_add _
  have e2 : 0 + ms = ms := Nat.zero_add _
  have e3 : kS K = kS K + 0 := rfl
  refine V.start (L' := [(0, .ref a0)]) rfl ?_
  refine V.aload_n (pc := 0) C dX2_init_0 0 rfl ?_
  refine V.objInit (pc := 1) C wd_443 wd_25 wd_26 (Nat.le_of_ble_eq_true rfl) ⟨Nat.le_of_ble_eq_true rfl, Nat.le_of_ble_eq_true rfl⟩ dX2_init_1 ?_
  refine V.aload_n (pc := 4) C dX2_init_4 0 rfl ?_
  refine V.iconst (pc := 5) C dX2_init_5 (v := (0 : Int32)) (by decide) ?_
  replace hf := ob_some hf
  obtain ⟨g1, h2, hf⟩ := hf
  refine V.putX (pc := 6) C kX2 (k := 0) (by decide) wd_444 rfl rfl rfl h2 dX2_init_6 ?_
  refine V.aload_n (pc := 9) C dX2_init_9 0 rfl ?_
  refine V.iconst (pc := 10) C dX2_init_10 (v := (0 : Int32)) (by decide) ?_
  replace hf := ob_some hf
  obtain ⟨g3, h4, hf⟩ := hf
  refine V.putX (pc := 11) C kX2 (k := 1) (by decide) wd_448 rfl rfl rfl h4 dX2_init_11 ?_
  refine V.aload_n (pc := 14) C dX2_init_14 0 rfl ?_
  refine V.iconst (pc := 15) C dX2_init_15 (v := (0 : Int32)) (by decide) ?_
  replace hf := ob_some hf
  obtain ⟨g5, h6, hf⟩ := hf
  refine V.putX (pc := 16) C kX2 (k := 2) (by decide) wd_450 rfl rfl rfl h6 dX2_init_16 ?_
  refine V.aload_n (pc := 19) C dX2_init_19 0 rfl ?_
  refine V.iconst (pc := 20) C dX2_init_20 (v := (0 : Int32)) (by decide) ?_
  replace hf := ob_some hf
  obtain ⟨g7, h8, hf⟩ := hf
  refine V.putX (pc := 21) C kX2 (k := 3) (by decide) wd_452 rfl rfl rfl h8 dX2_init_21 ?_
  refine V.aload_n (pc := 24) C dX2_init_24 0 rfl ?_
  refine V.iconst (pc := 25) C dX2_init_25 (v := (-1 : Int32)) (by decide) ?_
  replace hf := ob_some hf
  obtain ⟨g9, h10, hf⟩ := hf
  refine V.putX (pc := 26) C kX2 (k := 4) (by decide) wd_454 rfl rfl rfl h10 dX2_init_26 ?_
  refine V.aload_n (pc := 29) C dX2_init_29 0 rfl ?_
  refine V.bipush (pc := 30) C dX2_init_30 (v := (8 : Int32)) (by decide) ?_
  replace hf := bmp_some hf
  obtain ⟨b11, b12, hf, h13, h14⟩ := hf
  refine V.newI (pc := 32) (M := 8) C wd_106 (by decide) (by decide) (by decide) (by show _ ≤ mc; omega) (by show _ ≤ ms; omega) dX2_init_32 ?_
  replace hf := ob_some hf
  obtain ⟨g16, h17, hf⟩ := hf
  refine V.putF (pc := 34) C kX2 (k := 5) (by decide) wd_456 rfl hin rfl rfl rfl h17 dX2_init_34 ?_
  refine V.aload_n (pc := 37) C dX2_init_37 0 rfl ?_
  refine V.bipush (pc := 38) C dX2_init_38 (v := (8 : Int32)) (by decide) ?_
  replace hf := bmp_some hf
  obtain ⟨b18, b19, hf, h20, h21⟩ := hf
  refine V.newI (pc := 40) (M := 8) C wd_106 (by decide) (by decide) (by decide) (by show _ ≤ mc; omega) (by show _ ≤ ms; omega) dX2_init_40 ?_
  replace hf := ob_some hf
  obtain ⟨g23, h24, hf⟩ := hf
  refine V.putF (pc := 42) C kX2 (k := 6) (by decide) wd_457 rfl hin rfl rfl rfl h24 dX2_init_42 ?_
  refine V.aload_n (pc := 45) C dX2_init_45 0 rfl ?_
  refine V.bipush (pc := 46) C dX2_init_46 (v := (8 : Int32)) (by decide) ?_
  replace hf := bmp_some hf
  obtain ⟨b25, b26, hf, h27, h28⟩ := hf
  refine V.newI (pc := 48) (M := 8) C wd_106 (by decide) (by decide) (by decide) (by show _ ≤ mc; omega) (by show _ ≤ ms; omega) dX2_init_48 ?_
  replace hf := ob_some hf
  obtain ⟨g30, h31, hf⟩ := hf
  refine V.putF (pc := 50) C kX2 (k := 7) (by decide) wd_458 rfl hin rfl rfl rfl h31 dX2_init_50 ?_
  refine V.aload_n (pc := 53) C dX2_init_53 0 rfl ?_
  refine V.bipush (pc := 54) C dX2_init_54 (v := (48 : Int32)) (by decide) ?_
  replace hf := bmp_some hf
  obtain ⟨b32, b33, hf, h34, h35⟩ := hf
  refine V.newI (pc := 56) (M := 48) C wd_106 (by decide) (by decide) (by decide) (by show _ ≤ mc; omega) (by show _ ≤ ms; omega) dX2_init_56 ?_
  replace hf := ob_some hf
  obtain ⟨g37, h38, hf⟩ := hf
  refine V.putF (pc := 58) C kX2 (k := 8) (by decide) wd_459 rfl hin rfl rfl rfl h38 dX2_init_58 ?_
  obtain ⟨f1, f2, f3, f4⟩ := fin4 hf
  clear hf
  subst f1
  subst f2
  refine V.cast (c := mc) (s := ms) (by omega) (by omega) ?_
  exact V.vret (pc := 61) C (by omega) dX2_init_61
theorem dX2_scanWay_0 : decode cX2_scanWay 0 = .ok (.aload_n 1, 1) := by decide +kernel
theorem dX2_scanWay_1 : decode cX2_scanWay 1 = .ok (.ldc 78, 2) := by decide +kernel
theorem dX2_scanWay_3 : decode cX2_scanWay 3 = .ok (.invokevirtual 80, 3) := by decide +kernel
theorem dX2_scanWay_6 : decode cX2_scanWay 6 = .ok (.ifCond .eq 5, 3) := by decide +kernel
theorem dX2_scanWay_9 : decode cX2_scanWay 9 = .ok (.iconst 0, 1) := by decide +kernel
theorem dX2_scanWay_10 : decode cX2_scanWay 10 = .ok (.ireturn, 1) := by decide +kernel
theorem dX2_scanWay_11 : decode cX2_scanWay 11 = .ok (.aload_n 1, 1) := by decide +kernel
theorem dX2_scanWay_12 : decode cX2_scanWay 12 = .ok (.ldc 84, 2) := by decide +kernel
theorem dX2_scanWay_14 : decode cX2_scanWay 14 = .ok (.invokevirtual 80, 3) := by decide +kernel
theorem dX2_scanWay_17 : decode cX2_scanWay 17 = .ok (.ifCond .eq 5, 3) := by decide +kernel
theorem dX2_scanWay_20 : decode cX2_scanWay 20 = .ok (.iconst 1, 1) := by decide +kernel
theorem dX2_scanWay_21 : decode cX2_scanWay 21 = .ok (.ireturn, 1) := by decide +kernel
theorem dX2_scanWay_22 : decode cX2_scanWay 22 = .ok (.aload_n 1, 1) := by decide +kernel
theorem dX2_scanWay_23 : decode cX2_scanWay 23 = .ok (.ldc 86, 2) := by decide +kernel
theorem dX2_scanWay_25 : decode cX2_scanWay 25 = .ok (.invokevirtual 80, 3) := by decide +kernel
theorem dX2_scanWay_28 : decode cX2_scanWay 28 = .ok (.ifCond .eq 7, 3) := by decide +kernel
theorem dX2_scanWay_31 : decode cX2_scanWay 31 = .ok (.iconst 2, 1) := by decide +kernel
theorem dX2_scanWay_32 : decode cX2_scanWay 32 = .ok (.goto 4, 3) := by decide +kernel
theorem dX2_scanWay_35 : decode cX2_scanWay 35 = .ok (.iconst (-1), 1) := by decide +kernel
theorem dX2_scanWay_36 : decode cX2_scanWay 36 = .ok (.ireturn, 1) := by decide +kernel
def fX2_scanWay (g : PH) (a0 : Nat) (a1 : Nat) : Option (Int32 × PH) :=
  okb (isO g a0 2) ((fX6_takeWord g a1 7).bind fun q1 =>
  (if q1.1 = 0 then ((fX6_takeWord q1.2 a1 8).bind fun q4 =>
  (if q4.1 = 0 then ((fX6_takeWord q4.2 a1 9).bind fun q7 =>
  (if q7.1 = 0 then (some ((-1 : Int32), q7.2)) else
  (some ((2 : Int32), q7.2)))) else
  (some ((1 : Int32), q4.2)))) else
  (some ((0 : Int32), q1.2))))
theorem oX2_scanWay {g : PH} {a0 : Nat} {a1 : Nat} {q : (Int32 × PH)} (h : fX2_scanWay g a0 a1 = some q) : isO g a0 2 = true := by unfold fX2_scanWay at h; exact (okb_some h).1
theorem hyX2_scanWay : hMet yX2_scanWay RX2 cX2_scanWay 2 (some .int) 1 := ⟨wd_492, wd_491, ws_12, wd_14, rfl, by decide +kernel, by decide +kernel, by decide +kernel⟩
set_option maxHeartbeats 4000000 in
set_option maxRecDepth 100000 in
theorem mX2_scanWay (l : Launch) (E : HE) (sz : Nat) {g g' : PH} {a0 : Nat} {a1 : Nat} {r : Int32} (hf : fX2_scanWay g a0 a1 = some (r, g')) : hM l E yX2_scanWay cX2_scanWay 2 (some .int) 5 109 0 0 sz g [.ref a0, .ref a1] (some (.int r)) g' := by
  refine hM.of (by decide) (Nat.le_of_ble_eq_true rfl) (fun K hl C hin hsz => ?_)
  subst hl
  subst hsz
  have C : VC K E 2 cX2_scanWay RX2 (some .int) := C
  unfold fX2_scanWay at hf
  replace hf := okb_some hf
  obtain ⟨ho, hf⟩ := hf
  refine V.start (L' := [(0, .ref a0), (1, .ref a1)]) rfl ?_
  refine V.aload_n (pc := 0) C dX2_scanWay_0 1 rfl ?_
  refine V.ldcS (pc := 1) C (j := 7) rfl dX2_scanWay_1 ?_
  replace hf := ob_some hf
  obtain ⟨q1, h2, hf⟩ := hf
  refine V.callV0i (pc := 3) C hyX6_takeWord wd_494 (mX6_takeWord (r := q1.1) (g' := q1.2) K.2.1 E (kS K) h2) rfl rfl rfl (oX6_takeWord h2) ⟨Nat.le_of_ble_eq_true rfl, Nat.le_of_ble_eq_true rfl⟩ (Nat.le_of_ble_eq_true rfl) dX2_scanWay_3 ⟨Nat.zero_le _, Nat.zero_le _⟩ rfl ?_
  refine V.if_eq (pc := 6) (t := 11) C dX2_scanWay_6 (by decide) (fun c3 => ?_) (fun c3 => ?_)
  · replace hf := ite_t c3 hf
    refine V.aload_n (pc := 11) C dX2_scanWay_11 1 rfl ?_
    refine V.ldcS (pc := 12) C (j := 8) rfl dX2_scanWay_12 ?_
    replace hf := ob_some hf
    obtain ⟨q4, h5, hf⟩ := hf
    refine V.callV0i (pc := 14) C hyX6_takeWord wd_494 (mX6_takeWord (r := q4.1) (g' := q4.2) K.2.1 E (kS K) h5) rfl rfl rfl (oX6_takeWord h5) ⟨Nat.le_of_ble_eq_true rfl, Nat.le_of_ble_eq_true rfl⟩ (Nat.le_of_ble_eq_true rfl) dX2_scanWay_14 ⟨Nat.zero_le _, Nat.zero_le _⟩ rfl ?_
    refine V.if_eq (pc := 17) (t := 22) C dX2_scanWay_17 (by decide) (fun c6 => ?_) (fun c6 => ?_)
    · replace hf := ite_t c6 hf
      refine V.aload_n (pc := 22) C dX2_scanWay_22 1 rfl ?_
      refine V.ldcS (pc := 23) C (j := 9) rfl dX2_scanWay_23 ?_
      replace hf := ob_some hf
      obtain ⟨q7, h8, hf⟩ := hf
      refine V.callV0i (pc := 25) C hyX6_takeWord wd_494 (mX6_takeWord (r := q7.1) (g' := q7.2) K.2.1 E (kS K) h8) rfl rfl rfl (oX6_takeWord h8) ⟨Nat.le_of_ble_eq_true rfl, Nat.le_of_ble_eq_true rfl⟩ (Nat.le_of_ble_eq_true rfl) dX2_scanWay_25 ⟨Nat.zero_le _, Nat.zero_le _⟩ rfl ?_
      refine V.if_eq (pc := 28) (t := 35) C dX2_scanWay_28 (by decide) (fun c9 => ?_) (fun c9 => ?_)
      · replace hf := ite_t c9 hf
        refine V.iconst (pc := 35) C dX2_scanWay_35 (v := (-1 : Int32)) (by decide) ?_
        obtain ⟨f1, f2⟩ := fin2 hf
        clear hf
        subst f1
        subst f2
        exact V.iret (pc := 36) C rfl dX2_scanWay_36
      replace hf := ite_f c9 hf
      refine V.iconst (pc := 31) C dX2_scanWay_31 (v := (2 : Int32)) (by decide) ?_
      refine V.goto (pc := 32) (t := 36) C dX2_scanWay_32 (by decide) ?_
      obtain ⟨f1, f2⟩ := fin2 hf
      clear hf
      subst f1
      subst f2
      exact V.iret (pc := 36) C rfl dX2_scanWay_36
    replace hf := ite_f c6 hf
    refine V.iconst (pc := 20) C dX2_scanWay_20 (v := (1 : Int32)) (by decide) ?_
    obtain ⟨f1, f2⟩ := fin2 hf
    clear hf
    subst f1
    subst f2
    exact V.iret (pc := 21) C rfl dX2_scanWay_21
  replace hf := ite_f c3 hf
  refine V.iconst (pc := 9) C dX2_scanWay_9 (v := (0 : Int32)) (by decide) ?_
  obtain ⟨f1, f2⟩ := fin2 hf
  clear hf
  subst f1
  subst f2
  exact V.iret (pc := 10) C rfl dX2_scanWay_10
theorem dX2_scanOp_0 : decode cX2_scanOp 0 = .ok (.aload_n 1, 1) := by decide +kernel
theorem dX2_scanOp_1 : decode cX2_scanOp 1 = .ok (.invokevirtual 59, 3) := by decide +kernel
theorem dX2_scanOp_4 : decode cX2_scanOp 4 = .ok (.istore_n 2, 1) := by decide +kernel
theorem dX2_scanOp_5 : decode cX2_scanOp 5 = .ok (.aload_n 1, 1) := by decide +kernel
theorem dX2_scanOp_6 : decode cX2_scanOp 6 = .ok (.ldc 88, 2) := by decide +kernel
theorem dX2_scanOp_8 : decode cX2_scanOp 8 = .ok (.invokevirtual 55, 3) := by decide +kernel
theorem dX2_scanOp_11 : decode cX2_scanOp 11 = .ok (.istore_n 3, 1) := by decide +kernel
theorem dX2_scanOp_12 : decode cX2_scanOp 12 = .ok (.iload_n 3, 1) := by decide +kernel
theorem dX2_scanOp_13 : decode cX2_scanOp 13 = .ok (.iconst (-1), 1) := by decide +kernel
theorem dX2_scanOp_14 : decode cX2_scanOp 14 = .ok (.if_icmp .eq 12, 3) := by decide +kernel
theorem dX2_scanOp_17 : decode cX2_scanOp 17 = .ok (.aload_n 0, 1) := by decide +kernel
theorem dX2_scanOp_18 : decode cX2_scanOp 18 = .ok (.getfield 9, 3) := by decide +kernel
theorem dX2_scanOp_21 : decode cX2_scanOp 21 = .ok (.bipush 8, 2) := by decide +kernel
theorem dX2_scanOp_23 : decode cX2_scanOp 23 = .ok (.if_icmp .lt 4, 3) := by decide +kernel
theorem dX2_scanOp_26 : decode cX2_scanOp 26 = .ok (.return_, 1) := by decide +kernel
theorem dX2_scanOp_27 : decode cX2_scanOp 27 = .ok (.aload_n 0, 1) := by decide +kernel
theorem dX2_scanOp_28 : decode cX2_scanOp 28 = .ok (.getfield 31, 3) := by decide +kernel
theorem dX2_scanOp_31 : decode cX2_scanOp 31 = .ok (.aload_n 0, 1) := by decide +kernel
theorem dX2_scanOp_32 : decode cX2_scanOp 32 = .ok (.getfield 9, 3) := by decide +kernel
theorem dX2_scanOp_35 : decode cX2_scanOp 35 = .ok (.iaload, 1) := by decide +kernel
theorem dX2_scanOp_36 : decode cX2_scanOp 36 = .ok (.istore 4, 2) := by decide +kernel
theorem dX2_scanOp_38 : decode cX2_scanOp 38 = .ok (.iload 4, 2) := by decide +kernel
theorem dX2_scanOp_40 : decode cX2_scanOp 40 = .ok (.bipush 6, 2) := by decide +kernel
theorem dX2_scanOp_42 : decode cX2_scanOp 42 = .ok (.if_icmp .lt 10, 3) := by decide +kernel
theorem dX2_scanOp_45 : decode cX2_scanOp 45 = .ok (.aload_n 1, 1) := by decide +kernel
theorem dX2_scanOp_46 : decode cX2_scanOp 46 = .ok (.iload_n 2, 1) := by decide +kernel
theorem dX2_scanOp_47 : decode cX2_scanOp 47 = .ok (.iconst 3, 1) := by decide +kernel
theorem dX2_scanOp_48 : decode cX2_scanOp 48 = .ok (.invokevirtual 67, 3) := by decide +kernel
theorem dX2_scanOp_51 : decode cX2_scanOp 51 = .ok (.return_, 1) := by decide +kernel
theorem dX2_scanOp_52 : decode cX2_scanOp 52 = .ok (.aload_n 1, 1) := by decide +kernel
theorem dX2_scanOp_53 : decode cX2_scanOp 53 = .ok (.ldc 90, 2) := by decide +kernel
theorem dX2_scanOp_55 : decode cX2_scanOp 55 = .ok (.invokevirtual 55, 3) := by decide +kernel
theorem dX2_scanOp_58 : decode cX2_scanOp 58 = .ok (.istore 5, 2) := by decide +kernel
theorem dX2_scanOp_60 : decode cX2_scanOp 60 = .ok (.iload_n 3, 1) := by decide +kernel
theorem dX2_scanOp_61 : decode cX2_scanOp 61 = .ok (.ifCond .ne 24, 3) := by decide +kernel
theorem dX2_scanOp_64 : decode cX2_scanOp 64 = .ok (.iload 5, 2) := by decide +kernel
theorem dX2_scanOp_66 : decode cX2_scanOp 66 = .ok (.iconst (-1), 1) := by decide +kernel
theorem dX2_scanOp_67 : decode cX2_scanOp 67 = .ok (.if_icmp .eq 18, 3) := by decide +kernel
theorem dX2_scanOp_70 : decode cX2_scanOp 70 = .ok (.iload 5, 2) := by decide +kernel
theorem dX2_scanOp_72 : decode cX2_scanOp 72 = .ok (.aload_n 0, 1) := by decide +kernel
theorem dX2_scanOp_73 : decode cX2_scanOp 73 = .ok (.getfield 24, 3) := by decide +kernel
theorem dX2_scanOp_76 : decode cX2_scanOp 76 = .ok (.if_icmp .eq 9, 3) := by decide +kernel
theorem dX2_scanOp_79 : decode cX2_scanOp 79 = .ok (.aload_n 1, 1) := by decide +kernel
theorem dX2_scanOp_80 : decode cX2_scanOp 80 = .ok (.iload_n 2, 1) := by decide +kernel
theorem dX2_scanOp_81 : decode cX2_scanOp 81 = .ok (.iconst 4, 1) := by decide +kernel
theorem dX2_scanOp_82 : decode cX2_scanOp 82 = .ok (.invokevirtual 67, 3) := by decide +kernel
theorem dX2_scanOp_85 : decode cX2_scanOp 85 = .ok (.aload_n 0, 1) := by decide +kernel
theorem dX2_scanOp_86 : decode cX2_scanOp 86 = .ok (.getfield 37, 3) := by decide +kernel
theorem dX2_scanOp_89 : decode cX2_scanOp 89 = .ok (.aload_n 0, 1) := by decide +kernel
theorem dX2_scanOp_90 : decode cX2_scanOp 90 = .ok (.getfield 9, 3) := by decide +kernel
theorem dX2_scanOp_93 : decode cX2_scanOp 93 = .ok (.bipush 6, 2) := by decide +kernel
theorem dX2_scanOp_95 : decode cX2_scanOp 95 = .ok (.imul, 1) := by decide +kernel
theorem dX2_scanOp_96 : decode cX2_scanOp 96 = .ok (.iload 4, 2) := by decide +kernel
theorem dX2_scanOp_98 : decode cX2_scanOp 98 = .ok (.iadd, 1) := by decide +kernel
theorem dX2_scanOp_99 : decode cX2_scanOp 99 = .ok (.iload_n 3, 1) := by decide +kernel
theorem dX2_scanOp_100 : decode cX2_scanOp 100 = .ok (.iconst 2, 1) := by decide +kernel
theorem dX2_scanOp_101 : decode cX2_scanOp 101 = .ok (.imul, 1) := by decide +kernel
theorem dX2_scanOp_102 : decode cX2_scanOp 102 = .ok (.iload 5, 2) := by decide +kernel
theorem dX2_scanOp_104 : decode cX2_scanOp 104 = .ok (.iadd, 1) := by decide +kernel
theorem dX2_scanOp_105 : decode cX2_scanOp 105 = .ok (.iastore, 1) := by decide +kernel
theorem dX2_scanOp_106 : decode cX2_scanOp 106 = .ok (.aload_n 0, 1) := by decide +kernel
theorem dX2_scanOp_107 : decode cX2_scanOp 107 = .ok (.getfield 31, 3) := by decide +kernel
theorem dX2_scanOp_110 : decode cX2_scanOp 110 = .ok (.aload_n 0, 1) := by decide +kernel
theorem dX2_scanOp_111 : decode cX2_scanOp 111 = .ok (.getfield 9, 3) := by decide +kernel
theorem dX2_scanOp_114 : decode cX2_scanOp 114 = .ok (.iload 4, 2) := by decide +kernel
theorem dX2_scanOp_116 : decode cX2_scanOp 116 = .ok (.iconst 1, 1) := by decide +kernel
theorem dX2_scanOp_117 : decode cX2_scanOp 117 = .ok (.iadd, 1) := by decide +kernel
theorem dX2_scanOp_118 : decode cX2_scanOp 118 = .ok (.iastore, 1) := by decide +kernel
theorem dX2_scanOp_119 : decode cX2_scanOp 119 = .ok (.iload_n 3, 1) := by decide +kernel
theorem dX2_scanOp_120 : decode cX2_scanOp 120 = .ok (.ifCond .ne 19, 3) := by decide +kernel
theorem dX2_scanOp_123 : decode cX2_scanOp 123 = .ok (.aload_n 0, 1) := by decide +kernel
theorem dX2_scanOp_124 : decode cX2_scanOp 124 = .ok (.getfield 34, 3) := by decide +kernel
theorem dX2_scanOp_127 : decode cX2_scanOp 127 = .ok (.aload_n 0, 1) := by decide +kernel
theorem dX2_scanOp_128 : decode cX2_scanOp 128 = .ok (.getfield 9, 3) := by decide +kernel
theorem dX2_scanOp_131 : decode cX2_scanOp 131 = .ok (.dup2, 1) := by decide +kernel
theorem dX2_scanOp_132 : decode cX2_scanOp 132 = .ok (.iaload, 1) := by decide +kernel
theorem dX2_scanOp_133 : decode cX2_scanOp 133 = .ok (.iconst 1, 1) := by decide +kernel
theorem dX2_scanOp_134 : decode cX2_scanOp 134 = .ok (.iadd, 1) := by decide +kernel
theorem dX2_scanOp_135 : decode cX2_scanOp 135 = .ok (.iastore, 1) := by decide +kernel
theorem dX2_scanOp_136 : decode cX2_scanOp 136 = .ok (.goto 9, 3) := by decide +kernel
theorem dX2_scanOp_139 : decode cX2_scanOp 139 = .ok (.aload_n 0, 1) := by decide +kernel
theorem dX2_scanOp_140 : decode cX2_scanOp 140 = .ok (.iload 5, 2) := by decide +kernel
theorem dX2_scanOp_142 : decode cX2_scanOp 142 = .ok (.putfield 24, 3) := by decide +kernel
theorem dX2_scanOp_145 : decode cX2_scanOp 145 = .ok (.return_, 1) := by decide +kernel
def fX2_scanOp_85  (g : PH) (v0 : Nat) (v3 : Int32) (v4 : Int32) (v5 : Int32) : Option (Unit × PH) :=
  (getR g v0 2 8).bind fun p1 =>
  ((getI g v0 2 0).bind fun x3 =>
  ((stI g p1 0 ((x3 * (6 : Int32)) + v4) ((v3 * (2 : Int32)) + v5)).bind fun g5 =>
  ((getR g5 v0 2 6).bind fun p7 =>
  ((getI g5 v0 2 0).bind fun x9 =>
  ((stI g5 p7 0 x9 (v4 + (1 : Int32))).bind fun g11 =>
  (if v3 = 0 then ((getR g11 v0 2 7).bind fun p16 =>
  ((getI g11 v0 2 0).bind fun x18 =>
  ((ldI g11 p16 0 x18).bind fun x20 =>
  ((stI g11 p16 0 x18 (x20 + (1 : Int32))).bind fun g22 =>
  (some ((), g22)))))) else
  ((putV g11 v0 2 4 (.int v5)).bind fun g14 =>
  (some ((), g14)))))))))
set_option maxHeartbeats 4000000 in
set_option maxRecDepth 100000 in
theorem bX2_scanOp_85 {K : HK} {E : HE} {r : Unit} {g' : PH}  (C : VC K E 6 cX2_scanOp RX2 none)  {g : PH} {v0 : Nat} {v3 : Int32} {v4 : Int32} {v5 : Int32} (hf : fX2_scanOp_85  g v0 v3 v4 v5 = some (r, g')) : V K E (hRm 5 114 0 0) 6 (hZ K E none g' 0 0) 0 0 (kS K) g 85 [(0, .ref v0), (3, .int v3), (4, .int v4), (5, .int v5)] [] := by
  unfold fX2_scanOp_85 at hf
  refine V.aload_n (pc := 85) C dX2_scanOp_85 0 rfl ?_
  replace hf := ob_some hf
  obtain ⟨p1, h2, hf⟩ := hf
  refine V.getR (pc := 86) C kX2 (k := 8) (by decide) wd_459 h2 dX2_scanOp_86 ?_
  refine V.aload_n (pc := 89) C dX2_scanOp_89 0 rfl ?_
  replace hf := ob_some hf
  obtain ⟨x3, h4, hf⟩ := hf
  refine V.getI (pc := 90) C kX2 (k := 0) (by decide) wd_444 h4 dX2_scanOp_90 ?_
  refine V.bipush (pc := 93) C dX2_scanOp_93 (v := (6 : Int32)) (by decide) ?_
  refine V.imul (pc := 95) C dX2_scanOp_95 ?_
  refine V.iload (pc := 96) C dX2_scanOp_96 2 rfl ?_
  refine V.iadd (pc := 98) C dX2_scanOp_98 ?_
  refine V.iload_n (pc := 99) C dX2_scanOp_99 1 rfl ?_
  refine V.iconst (pc := 100) C dX2_scanOp_100 (v := (2 : Int32)) (by decide) ?_
  refine V.imul (pc := 101) C dX2_scanOp_101 ?_
  refine V.iload (pc := 102) C dX2_scanOp_102 3 rfl ?_
  refine V.iadd (pc := 104) C dX2_scanOp_104 ?_
  replace hf := ob_some hf
  obtain ⟨g5, h6, hf⟩ := hf
  refine V.iast (pc := 105) C h6 dX2_scanOp_105 ?_
  refine V.aload_n (pc := 106) C dX2_scanOp_106 0 rfl ?_
  replace hf := ob_some hf
  obtain ⟨p7, h8, hf⟩ := hf
  refine V.getR (pc := 107) C kX2 (k := 6) (by decide) wd_457 h8 dX2_scanOp_107 ?_
  refine V.aload_n (pc := 110) C dX2_scanOp_110 0 rfl ?_
  replace hf := ob_some hf
  obtain ⟨x9, h10, hf⟩ := hf
  refine V.getI (pc := 111) C kX2 (k := 0) (by decide) wd_444 h10 dX2_scanOp_111 ?_
  refine V.iload (pc := 114) C dX2_scanOp_114 2 rfl ?_
  refine V.iconst (pc := 116) C dX2_scanOp_116 (v := (1 : Int32)) (by decide) ?_
  refine V.iadd (pc := 117) C dX2_scanOp_117 ?_
  replace hf := ob_some hf
  obtain ⟨g11, h12, hf⟩ := hf
  refine V.iast (pc := 118) C h12 dX2_scanOp_118 ?_
  refine V.iload_n (pc := 119) C dX2_scanOp_119 1 rfl ?_
  refine V.if_ne (pc := 120) (t := 139) C dX2_scanOp_120 (by decide) (fun c13 => ?_) (fun c13 => ?_)
  · replace hf := ite_f c13 hf
    refine V.aload_n (pc := 139) C dX2_scanOp_139 0 rfl ?_
    refine V.iload (pc := 140) C dX2_scanOp_140 3 rfl ?_
    replace hf := ob_some hf
    obtain ⟨g14, h15, hf⟩ := hf
    refine V.putX (pc := 142) C kX2 (k := 4) (by decide) wd_454 rfl rfl rfl h15 dX2_scanOp_142 ?_
    obtain ⟨f1, f2⟩ := fin2 hf
    clear hf
    subst f1
    subst f2
    exact V.vret (pc := 145) C rfl dX2_scanOp_145
  replace hf := ite_t c13 hf
  refine V.aload_n (pc := 123) C dX2_scanOp_123 0 rfl ?_
  replace hf := ob_some hf
  obtain ⟨p16, h17, hf⟩ := hf
  refine V.getR (pc := 124) C kX2 (k := 7) (by decide) wd_458 h17 dX2_scanOp_124 ?_
  refine V.aload_n (pc := 127) C dX2_scanOp_127 0 rfl ?_
  replace hf := ob_some hf
  obtain ⟨x18, h19, hf⟩ := hf
  refine V.getI (pc := 128) C kX2 (k := 0) (by decide) wd_444 h19 dX2_scanOp_128 ?_
  refine V.dup2 (pc := 131) C dX2_scanOp_131 rfl rfl ?_
  replace hf := ob_some hf
  obtain ⟨x20, h21, hf⟩ := hf
  refine V.iald (pc := 132) C h21 dX2_scanOp_132 ?_
  refine V.iconst (pc := 133) C dX2_scanOp_133 (v := (1 : Int32)) (by decide) ?_
  refine V.iadd (pc := 134) C dX2_scanOp_134 ?_
  replace hf := ob_some hf
  obtain ⟨g22, h23, hf⟩ := hf
  refine V.iast (pc := 135) C h23 dX2_scanOp_135 ?_
  refine V.goto (pc := 136) (t := 145) C dX2_scanOp_136 (by decide) ?_
  obtain ⟨f1, f2⟩ := fin2 hf
  clear hf
  subst f1
  subst f2
  exact V.vret (pc := 145) C rfl dX2_scanOp_145
def fX2_scanOp (g : PH) (a0 : Nat) (a1 : Nat) : Option (Unit × PH) :=
  okb (isO g a0 2) ((fX6_nextPlace g a1).bind fun q1 =>
  ((fX6_take q1.2 a1 11).bind fun q3 =>
  (if q3.1 = (-1 : Int32) then (some ((), q3.2)) else
  ((getI q3.2 a0 2 0).bind fun x6 =>
  (if x6 < (8 : Int32) then ((getR q3.2 a0 2 6).bind fun p9 =>
  ((getI q3.2 a0 2 0).bind fun x11 =>
  ((ldI q3.2 p9 0 x11).bind fun x13 =>
  (if x13 < (6 : Int32) then ((fX6_take q3.2 a1 12).bind fun q16 =>
  (if q3.1 = 0 then (if q16.1 = (-1 : Int32) then (fX2_scanOp_85 q16.2 a0 q3.1 x13 q16.1) else
  ((getI q16.2 a0 2 4).bind fun x20 =>
  (if q16.1 = x20 then (fX2_scanOp_85 q16.2 a0 q3.1 x13 q16.1) else
  ((fX6_blame q16.2 a1 q1.1 (4 : Int32)).bind fun q23 =>
  (fX2_scanOp_85 q23.2 a0 q3.1 x13 q16.1))))) else
  (fX2_scanOp_85 q16.2 a0 q3.1 x13 q16.1))) else
  ((fX6_blame q3.2 a1 q1.1 (3 : Int32)).bind fun q25 =>
  (some ((), q25.2))))))) else
  (some ((), q3.2)))))))
theorem oX2_scanOp {g : PH} {a0 : Nat} {a1 : Nat} {q : (Unit × PH)} (h : fX2_scanOp g a0 a1 = some q) : isO g a0 2 = true := by unfold fX2_scanOp at h; exact (okb_some h).1
theorem hyX2_scanOp : hMet yX2_scanOp RX2 cX2_scanOp 6 none 1 := ⟨wd_527, wd_526, ws_13, wd_14, rfl, by decide +kernel, by decide +kernel, by decide +kernel⟩
set_option maxHeartbeats 4000000 in
set_option maxRecDepth 100000 in
theorem mX2_scanOp (l : Launch) (E : HE) (sz : Nat) {g g' : PH} {a0 : Nat} {a1 : Nat} {r : Unit} (hf : fX2_scanOp g a0 a1 = some (r, g')) : hM l E yX2_scanOp cX2_scanOp 6 none 5 114 0 0 sz g [.ref a0, .ref a1] none g' := by
  refine hM.of (by decide) (Nat.le_of_ble_eq_true rfl) (fun K hl C hin hsz => ?_)
  subst hl
  subst hsz
  have C : VC K E 6 cX2_scanOp RX2 none := C
  unfold fX2_scanOp at hf
  replace hf := okb_some hf
  obtain ⟨ho, hf⟩ := hf
  refine V.start (L' := [(0, .ref a0), (1, .ref a1)]) rfl ?_
  refine V.aload_n (pc := 0) C dX2_scanOp_0 1 rfl ?_
  replace hf := ob_some hf
  obtain ⟨q1, h2, hf⟩ := hf
  refine V.callV0i (pc := 1) C hyX6_nextPlace wd_488 (mX6_nextPlace (r := q1.1) (g' := q1.2) K.2.1 E (kS K) h2) rfl rfl rfl (oX6_nextPlace h2) ⟨Nat.le_of_ble_eq_true rfl, Nat.le_of_ble_eq_true rfl⟩ (Nat.le_of_ble_eq_true rfl) dX2_scanOp_1 ⟨Nat.zero_le _, Nat.zero_le _⟩ rfl ?_
  refine V.istore_n (pc := 4) (L' := [(2, .int q1.1), (0, .ref a0), (1, .ref a1)]) C dX2_scanOp_4 (by decide) rfl ?_
  refine V.aload_n (pc := 5) C dX2_scanOp_5 2 rfl ?_
  refine V.ldcS (pc := 6) C (j := 11) rfl dX2_scanOp_6 ?_
  replace hf := ob_some hf
  obtain ⟨q3, h4, hf⟩ := hf
  refine V.callV0i (pc := 8) C hyX6_take wd_523 (mX6_take (r := q3.1) (g' := q3.2) K.2.1 E (kS K) h4) rfl rfl rfl (oX6_take h4) ⟨Nat.le_of_ble_eq_true rfl, Nat.le_of_ble_eq_true rfl⟩ (Nat.le_of_ble_eq_true rfl) dX2_scanOp_8 ⟨Nat.zero_le _, Nat.zero_le _⟩ rfl ?_
  refine V.istore_n (pc := 11) (L' := [(3, .int q3.1), (2, .int q1.1), (0, .ref a0), (1, .ref a1)]) C dX2_scanOp_11 (by decide) rfl ?_
  refine V.iload_n (pc := 12) C dX2_scanOp_12 0 rfl ?_
  refine V.iconst (pc := 13) C dX2_scanOp_13 (v := (-1 : Int32)) (by decide) ?_
  refine V.icmp_eq (pc := 14) (t := 26) C dX2_scanOp_14 (by decide) (fun c5 => ?_) (fun c5 => ?_)
  · replace hf := ite_t c5 hf
    obtain ⟨f1, f2⟩ := fin2 hf
    clear hf
    subst f1
    subst f2
    exact V.vret (pc := 26) C rfl dX2_scanOp_26
  replace hf := ite_f c5 hf
  refine V.aload_n (pc := 17) C dX2_scanOp_17 2 rfl ?_
  replace hf := ob_some hf
  obtain ⟨x6, h7, hf⟩ := hf
  refine V.getI (pc := 18) C kX2 (k := 0) (by decide) wd_444 h7 dX2_scanOp_18 ?_
  refine V.bipush (pc := 21) C dX2_scanOp_21 (v := (8 : Int32)) (by decide) ?_
  refine V.icmp_lt (pc := 23) (t := 27) C dX2_scanOp_23 (by decide) (fun c8 => ?_) (fun c8 => ?_)
  · replace hf := ite_t c8 hf
    refine V.aload_n (pc := 27) C dX2_scanOp_27 2 rfl ?_
    replace hf := ob_some hf
    obtain ⟨p9, h10, hf⟩ := hf
    refine V.getR (pc := 28) C kX2 (k := 6) (by decide) wd_457 h10 dX2_scanOp_28 ?_
    refine V.aload_n (pc := 31) C dX2_scanOp_31 2 rfl ?_
    replace hf := ob_some hf
    obtain ⟨x11, h12, hf⟩ := hf
    refine V.getI (pc := 32) C kX2 (k := 0) (by decide) wd_444 h12 dX2_scanOp_32 ?_
    replace hf := ob_some hf
    obtain ⟨x13, h14, hf⟩ := hf
    refine V.iald (pc := 35) C h14 dX2_scanOp_35 ?_
    refine V.istore (pc := 36) (L' := [(4, .int x13), (3, .int q3.1), (2, .int q1.1), (0, .ref a0), (1, .ref a1)]) C dX2_scanOp_36 (by decide) rfl ?_
    refine V.iload (pc := 38) C dX2_scanOp_38 0 rfl ?_
    refine V.bipush (pc := 40) C dX2_scanOp_40 (v := (6 : Int32)) (by decide) ?_
    refine V.icmp_lt (pc := 42) (t := 52) C dX2_scanOp_42 (by decide) (fun c15 => ?_) (fun c15 => ?_)
    · replace hf := ite_t c15 hf
      refine V.aload_n (pc := 52) C dX2_scanOp_52 4 rfl ?_
      refine V.ldcS (pc := 53) C (j := 12) rfl dX2_scanOp_53 ?_
      replace hf := ob_some hf
      obtain ⟨q16, h17, hf⟩ := hf
      refine V.callV0i (pc := 55) C hyX6_take wd_523 (mX6_take (r := q16.1) (g' := q16.2) K.2.1 E (kS K) h17) rfl rfl rfl (oX6_take h17) ⟨Nat.le_of_ble_eq_true rfl, Nat.le_of_ble_eq_true rfl⟩ (Nat.le_of_ble_eq_true rfl) dX2_scanOp_55 ⟨Nat.zero_le _, Nat.zero_le _⟩ rfl ?_
      refine V.istore (pc := 58) (L' := [(5, .int q16.1), (4, .int x13), (3, .int q3.1), (2, .int q1.1), (0, .ref a0), (1, .ref a1)]) C dX2_scanOp_58 (by decide) rfl ?_
      refine V.iload_n (pc := 60) C dX2_scanOp_60 2 rfl ?_
      refine V.if_ne (pc := 61) (t := 85) C dX2_scanOp_61 (by decide) (fun c18 => ?_) (fun c18 => ?_)
      · replace hf := ite_f c18 hf
        refine V.sub (L' := [(0, .ref a0), (3, .int q3.1), (4, .int x13), (5, .int q16.1)]) [4, 2, 1, 0] rfl ?_
        exact bX2_scanOp_85 C  hf
      replace hf := ite_t c18 hf
      refine V.iload (pc := 64) C dX2_scanOp_64 0 rfl ?_
      refine V.iconst (pc := 66) C dX2_scanOp_66 (v := (-1 : Int32)) (by decide) ?_
      refine V.icmp_eq (pc := 67) (t := 85) C dX2_scanOp_67 (by decide) (fun c19 => ?_) (fun c19 => ?_)
      · replace hf := ite_t c19 hf
        refine V.sub (L' := [(0, .ref a0), (3, .int q3.1), (4, .int x13), (5, .int q16.1)]) [4, 2, 1, 0] rfl ?_
        exact bX2_scanOp_85 C  hf
      replace hf := ite_f c19 hf
      refine V.iload (pc := 70) C dX2_scanOp_70 0 rfl ?_
      refine V.aload_n (pc := 72) C dX2_scanOp_72 4 rfl ?_
      replace hf := ob_some hf
      obtain ⟨x20, h21, hf⟩ := hf
      refine V.getI (pc := 73) C kX2 (k := 4) (by decide) wd_454 h21 dX2_scanOp_73 ?_
      refine V.icmp_eq (pc := 76) (t := 85) C dX2_scanOp_76 (by decide) (fun c22 => ?_) (fun c22 => ?_)
      · replace hf := ite_t c22 hf
        refine V.sub (L' := [(0, .ref a0), (3, .int q3.1), (4, .int x13), (5, .int q16.1)]) [4, 2, 1, 0] rfl ?_
        exact bX2_scanOp_85 C  hf
      replace hf := ite_f c22 hf
      refine V.aload_n (pc := 79) C dX2_scanOp_79 5 rfl ?_
      refine V.iload_n (pc := 80) C dX2_scanOp_80 3 rfl ?_
      refine V.iconst (pc := 81) C dX2_scanOp_81 (v := (4 : Int32)) (by decide) ?_
      replace hf := ob_some hf
      obtain ⟨q23, h24, hf⟩ := hf
      refine V.callV0v (pc := 82) C hyX6_blame wd_521 (mX6_blame (r := q23.1) (g' := q23.2) K.2.1 E (kS K) h24) rfl rfl rfl (oX6_blame h24) ⟨Nat.le_of_ble_eq_true rfl, Nat.le_of_ble_eq_true rfl⟩ (Nat.le_of_ble_eq_true rfl) dX2_scanOp_82 ⟨Nat.zero_le _, Nat.zero_le _⟩ rfl ?_
      refine V.sub (L' := [(0, .ref a0), (3, .int q3.1), (4, .int x13), (5, .int q16.1)]) [4, 2, 1, 0] rfl ?_
      exact bX2_scanOp_85 C  hf
    replace hf := ite_f c15 hf
    refine V.aload_n (pc := 45) C dX2_scanOp_45 4 rfl ?_
    refine V.iload_n (pc := 46) C dX2_scanOp_46 2 rfl ?_
    refine V.iconst (pc := 47) C dX2_scanOp_47 (v := (3 : Int32)) (by decide) ?_
    replace hf := ob_some hf
    obtain ⟨q25, h26, hf⟩ := hf
    refine V.callV0v (pc := 48) C hyX6_blame wd_521 (mX6_blame (r := q25.1) (g' := q25.2) K.2.1 E (kS K) h26) rfl rfl rfl (oX6_blame h26) ⟨Nat.le_of_ble_eq_true rfl, Nat.le_of_ble_eq_true rfl⟩ (Nat.le_of_ble_eq_true rfl) dX2_scanOp_48 ⟨Nat.zero_le _, Nat.zero_le _⟩ rfl ?_
    obtain ⟨f1, f2⟩ := fin2 hf
    clear hf
    subst f1
    subst f2
    exact V.vret (pc := 51) C rfl dX2_scanOp_51
  replace hf := ite_f c8 hf
  obtain ⟨f1, f2⟩ := fin2 hf
  clear hf
  subst f1
  subst f2
  exact V.vret (pc := 26) C rfl dX2_scanOp_26
theorem dX2_scanElement_0 : decode cX2_scanElement 0 = .ok (.aload_n 1, 1) := by decide +kernel
theorem dX2_scanElement_1 : decode cX2_scanElement 1 = .ok (.invokevirtual 59, 3) := by decide +kernel
theorem dX2_scanElement_4 : decode cX2_scanElement 4 = .ok (.istore_n 2, 1) := by decide +kernel
theorem dX2_scanElement_5 : decode cX2_scanElement 5 = .ok (.aload_n 0, 1) := by decide +kernel
theorem dX2_scanElement_6 : decode cX2_scanElement 6 = .ok (.aload_n 1, 1) := by decide +kernel
theorem dX2_scanElement_7 : decode cX2_scanElement 7 = .ok (.invokevirtual 63, 3) := by decide +kernel
theorem dX2_scanElement_10 : decode cX2_scanElement 10 = .ok (.istore_n 3, 1) := by decide +kernel
theorem dX2_scanElement_11 : decode cX2_scanElement 11 = .ok (.iload_n 3, 1) := by decide +kernel
theorem dX2_scanElement_12 : decode cX2_scanElement 12 = .ok (.iconst (-1), 1) := by decide +kernel
theorem dX2_scanElement_13 : decode cX2_scanElement 13 = .ok (.if_icmp .ne 10, 3) := by decide +kernel
theorem dX2_scanElement_16 : decode cX2_scanElement 16 = .ok (.aload_n 1, 1) := by decide +kernel
theorem dX2_scanElement_17 : decode cX2_scanElement 17 = .ok (.iload_n 2, 1) := by decide +kernel
theorem dX2_scanElement_18 : decode cX2_scanElement 18 = .ok (.iconst 1, 1) := by decide +kernel
theorem dX2_scanElement_19 : decode cX2_scanElement 19 = .ok (.invokevirtual 67, 3) := by decide +kernel
theorem dX2_scanElement_22 : decode cX2_scanElement 22 = .ok (.return_, 1) := by decide +kernel
theorem dX2_scanElement_23 : decode cX2_scanElement 23 = .ok (.aload_n 0, 1) := by decide +kernel
theorem dX2_scanElement_24 : decode cX2_scanElement 24 = .ok (.getfield 9, 3) := by decide +kernel
theorem dX2_scanElement_27 : decode cX2_scanElement 27 = .ok (.bipush 8, 2) := by decide +kernel
theorem dX2_scanElement_29 : decode cX2_scanElement 29 = .ok (.if_icmp .ge 16, 3) := by decide +kernel
theorem dX2_scanElement_32 : decode cX2_scanElement 32 = .ok (.iload_n 3, 1) := by decide +kernel
theorem dX2_scanElement_33 : decode cX2_scanElement 33 = .ok (.iconst 2, 1) := by decide +kernel
theorem dX2_scanElement_34 : decode cX2_scanElement 34 = .ok (.if_icmp .ne 18, 3) := by decide +kernel
theorem dX2_scanElement_37 : decode cX2_scanElement 37 = .ok (.aload_n 0, 1) := by decide +kernel
theorem dX2_scanElement_38 : decode cX2_scanElement 38 = .ok (.getfield 21, 3) := by decide +kernel
theorem dX2_scanElement_41 : decode cX2_scanElement 41 = .ok (.iconst 3, 1) := by decide +kernel
theorem dX2_scanElement_42 : decode cX2_scanElement 42 = .ok (.if_icmp .lt 10, 3) := by decide +kernel
theorem dX2_scanElement_45 : decode cX2_scanElement 45 = .ok (.aload_n 1, 1) := by decide +kernel
theorem dX2_scanElement_46 : decode cX2_scanElement 46 = .ok (.iload_n 2, 1) := by decide +kernel
theorem dX2_scanElement_47 : decode cX2_scanElement 47 = .ok (.iconst 2, 1) := by decide +kernel
theorem dX2_scanElement_48 : decode cX2_scanElement 48 = .ok (.invokevirtual 67, 3) := by decide +kernel
theorem dX2_scanElement_51 : decode cX2_scanElement 51 = .ok (.return_, 1) := by decide +kernel
theorem dX2_scanElement_52 : decode cX2_scanElement 52 = .ok (.aload_n 0, 1) := by decide +kernel
theorem dX2_scanElement_53 : decode cX2_scanElement 53 = .ok (.getfield 27, 3) := by decide +kernel
theorem dX2_scanElement_56 : decode cX2_scanElement 56 = .ok (.aload_n 0, 1) := by decide +kernel
theorem dX2_scanElement_57 : decode cX2_scanElement 57 = .ok (.getfield 9, 3) := by decide +kernel
theorem dX2_scanElement_60 : decode cX2_scanElement 60 = .ok (.iload_n 3, 1) := by decide +kernel
theorem dX2_scanElement_61 : decode cX2_scanElement 61 = .ok (.iconst 2, 1) := by decide +kernel
theorem dX2_scanElement_62 : decode cX2_scanElement 62 = .ok (.if_icmp .ne 12, 3) := by decide +kernel
theorem dX2_scanElement_65 : decode cX2_scanElement 65 = .ok (.iconst 2, 1) := by decide +kernel
theorem dX2_scanElement_66 : decode cX2_scanElement 66 = .ok (.aload_n 0, 1) := by decide +kernel
theorem dX2_scanElement_67 : decode cX2_scanElement 67 = .ok (.getfield 21, 3) := by decide +kernel
theorem dX2_scanElement_70 : decode cX2_scanElement 70 = .ok (.iadd, 1) := by decide +kernel
theorem dX2_scanElement_71 : decode cX2_scanElement 71 = .ok (.goto 4, 3) := by decide +kernel
theorem dX2_scanElement_74 : decode cX2_scanElement 74 = .ok (.iload_n 3, 1) := by decide +kernel
theorem dX2_scanElement_75 : decode cX2_scanElement 75 = .ok (.iastore, 1) := by decide +kernel
theorem dX2_scanElement_76 : decode cX2_scanElement 76 = .ok (.aload_n 0, 1) := by decide +kernel
theorem dX2_scanElement_77 : decode cX2_scanElement 77 = .ok (.dup, 1) := by decide +kernel
theorem dX2_scanElement_78 : decode cX2_scanElement 78 = .ok (.getfield 21, 3) := by decide +kernel
theorem dX2_scanElement_81 : decode cX2_scanElement 81 = .ok (.iload_n 3, 1) := by decide +kernel
theorem dX2_scanElement_82 : decode cX2_scanElement 82 = .ok (.iconst 2, 1) := by decide +kernel
theorem dX2_scanElement_83 : decode cX2_scanElement 83 = .ok (.if_icmp .ne 7, 3) := by decide +kernel
theorem dX2_scanElement_86 : decode cX2_scanElement 86 = .ok (.iconst 1, 1) := by decide +kernel
theorem dX2_scanElement_87 : decode cX2_scanElement 87 = .ok (.goto 4, 3) := by decide +kernel
theorem dX2_scanElement_90 : decode cX2_scanElement 90 = .ok (.iconst 0, 1) := by decide +kernel
theorem dX2_scanElement_91 : decode cX2_scanElement 91 = .ok (.iadd, 1) := by decide +kernel
theorem dX2_scanElement_92 : decode cX2_scanElement 92 = .ok (.putfield 21, 3) := by decide +kernel
theorem dX2_scanElement_95 : decode cX2_scanElement 95 = .ok (.aload_n 1, 1) := by decide +kernel
theorem dX2_scanElement_96 : decode cX2_scanElement 96 = .ok (.ldc 71, 2) := by decide +kernel
theorem dX2_scanElement_98 : decode cX2_scanElement 98 = .ok (.invokevirtual 55, 3) := by decide +kernel
theorem dX2_scanElement_101 : decode cX2_scanElement 101 = .ok (.pop, 1) := by decide +kernel
theorem dX2_scanElement_102 : decode cX2_scanElement 102 = .ok (.aload_n 0, 1) := by decide +kernel
theorem dX2_scanElement_103 : decode cX2_scanElement 103 = .ok (.aload_n 1, 1) := by decide +kernel
theorem dX2_scanElement_104 : decode cX2_scanElement 104 = .ok (.invokevirtual 73, 3) := by decide +kernel
theorem dX2_scanElement_107 : decode cX2_scanElement 107 = .ok (.iconst 0, 1) := by decide +kernel
theorem dX2_scanElement_108 : decode cX2_scanElement 108 = .ok (.istore 4, 2) := by decide +kernel
theorem dX2_scanElement_110 : decode cX2_scanElement 110 = .ok (.iload 4, 2) := by decide +kernel
theorem dX2_scanElement_112 : decode cX2_scanElement 112 = .ok (.bipush 6, 2) := by decide +kernel
theorem dX2_scanElement_114 : decode cX2_scanElement 114 = .ok (.if_icmp .ge 23, 3) := by decide +kernel
theorem dX2_scanElement_117 : decode cX2_scanElement 117 = .ok (.aload_n 1, 1) := by decide +kernel
theorem dX2_scanElement_118 : decode cX2_scanElement 118 = .ok (.ldc 76, 2) := by decide +kernel
theorem dX2_scanElement_120 : decode cX2_scanElement 120 = .ok (.invokevirtual 55, 3) := by decide +kernel
theorem dX2_scanElement_123 : decode cX2_scanElement 123 = .ok (.ifCond .ne 14, 3) := by decide +kernel
theorem dX2_scanElement_126 : decode cX2_scanElement 126 = .ok (.aload_n 0, 1) := by decide +kernel
theorem dX2_scanElement_127 : decode cX2_scanElement 127 = .ok (.aload_n 1, 1) := by decide +kernel
theorem dX2_scanElement_128 : decode cX2_scanElement 128 = .ok (.invokevirtual 73, 3) := by decide +kernel
theorem dX2_scanElement_131 : decode cX2_scanElement 131 = .ok (.iinc 4 1, 3) := by decide +kernel
theorem dX2_scanElement_134 : decode cX2_scanElement 134 = .ok (.goto (-24), 3) := by decide +kernel
theorem dX2_scanElement_137 : decode cX2_scanElement 137 = .ok (.aload_n 0, 1) := by decide +kernel
theorem dX2_scanElement_138 : decode cX2_scanElement 138 = .ok (.dup, 1) := by decide +kernel
theorem dX2_scanElement_139 : decode cX2_scanElement 139 = .ok (.getfield 15, 3) := by decide +kernel
theorem dX2_scanElement_142 : decode cX2_scanElement 142 = .ok (.aload_n 0, 1) := by decide +kernel
theorem dX2_scanElement_143 : decode cX2_scanElement 143 = .ok (.getfield 31, 3) := by decide +kernel
theorem dX2_scanElement_146 : decode cX2_scanElement 146 = .ok (.aload_n 0, 1) := by decide +kernel
theorem dX2_scanElement_147 : decode cX2_scanElement 147 = .ok (.getfield 9, 3) := by decide +kernel
theorem dX2_scanElement_150 : decode cX2_scanElement 150 = .ok (.iaload, 1) := by decide +kernel
theorem dX2_scanElement_151 : decode cX2_scanElement 151 = .ok (.iadd, 1) := by decide +kernel
theorem dX2_scanElement_152 : decode cX2_scanElement 152 = .ok (.putfield 15, 3) := by decide +kernel
theorem dX2_scanElement_155 : decode cX2_scanElement 155 = .ok (.aload_n 0, 1) := by decide +kernel
theorem dX2_scanElement_156 : decode cX2_scanElement 156 = .ok (.dup, 1) := by decide +kernel
theorem dX2_scanElement_157 : decode cX2_scanElement 157 = .ok (.getfield 18, 3) := by decide +kernel
theorem dX2_scanElement_160 : decode cX2_scanElement 160 = .ok (.aload_n 0, 1) := by decide +kernel
theorem dX2_scanElement_161 : decode cX2_scanElement 161 = .ok (.getfield 34, 3) := by decide +kernel
theorem dX2_scanElement_164 : decode cX2_scanElement 164 = .ok (.aload_n 0, 1) := by decide +kernel
theorem dX2_scanElement_165 : decode cX2_scanElement 165 = .ok (.getfield 9, 3) := by decide +kernel
theorem dX2_scanElement_168 : decode cX2_scanElement 168 = .ok (.iaload, 1) := by decide +kernel
theorem dX2_scanElement_169 : decode cX2_scanElement 169 = .ok (.iadd, 1) := by decide +kernel
theorem dX2_scanElement_170 : decode cX2_scanElement 170 = .ok (.putfield 18, 3) := by decide +kernel
theorem dX2_scanElement_173 : decode cX2_scanElement 173 = .ok (.aload_n 0, 1) := by decide +kernel
theorem dX2_scanElement_174 : decode cX2_scanElement 174 = .ok (.dup, 1) := by decide +kernel
theorem dX2_scanElement_175 : decode cX2_scanElement 175 = .ok (.getfield 9, 3) := by decide +kernel
theorem dX2_scanElement_178 : decode cX2_scanElement 178 = .ok (.iconst 1, 1) := by decide +kernel
theorem dX2_scanElement_179 : decode cX2_scanElement 179 = .ok (.iadd, 1) := by decide +kernel
theorem dX2_scanElement_180 : decode cX2_scanElement 180 = .ok (.putfield 9, 3) := by decide +kernel
theorem dX2_scanElement_183 : decode cX2_scanElement 183 = .ok (.return_, 1) := by decide +kernel
def fX2_scanElement_45  (g : PH) (v1 : Nat) (v2 : Int32) : Option (Unit × PH) :=
  (fX6_blame g v1 v2 (2 : Int32)).bind fun q1 =>
  (some ((), q1.2))
set_option maxHeartbeats 4000000 in
set_option maxRecDepth 100000 in
theorem bX2_scanElement_45 {K : HK} {E : HE} {r : Unit} {g' : PH}  (C : VC K E 5 cX2_scanElement RX2 none)  {g : PH} {v1 : Nat} {v2 : Int32} (hf : fX2_scanElement_45  g v1 v2 = some (r, g')) : V K E (hRm 6 139 0 0) 5 (hZ K E none g' 0 0) 0 0 (kS K) g 45 [(1, .ref v1), (2, .int v2)] [] := by
  unfold fX2_scanElement_45 at hf
  refine V.aload_n (pc := 45) C dX2_scanElement_45 0 rfl ?_
  refine V.iload_n (pc := 46) C dX2_scanElement_46 1 rfl ?_
  refine V.iconst (pc := 47) C dX2_scanElement_47 (v := (2 : Int32)) (by decide) ?_
  replace hf := ob_some hf
  obtain ⟨q1, h2, hf⟩ := hf
  refine V.callV0v (pc := 48) C hyX6_blame wd_521 (mX6_blame (r := q1.1) (g' := q1.2) K.2.1 E (kS K) h2) rfl rfl rfl (oX6_blame h2) ⟨Nat.le_of_ble_eq_true rfl, Nat.le_of_ble_eq_true rfl⟩ (Nat.le_of_ble_eq_true rfl) dX2_scanElement_48 ⟨Nat.zero_le _, Nat.zero_le _⟩ rfl ?_
  obtain ⟨f1, f2⟩ := fin2 hf
  clear hf
  subst f1
  subst f2
  exact V.vret (pc := 51) C rfl dX2_scanElement_51
def fX2_scanElement_137  (g : PH) (v0 : Nat) : Option (Unit × PH) :=
  (getI g v0 2 1).bind fun x1 =>
  ((getR g v0 2 6).bind fun p3 =>
  ((getI g v0 2 0).bind fun x5 =>
  ((ldI g p3 0 x5).bind fun x7 =>
  ((putV g v0 2 1 (.int (x1 + x7))).bind fun g9 =>
  ((getI g9 v0 2 2).bind fun x11 =>
  ((getR g9 v0 2 7).bind fun p13 =>
  ((getI g9 v0 2 0).bind fun x15 =>
  ((ldI g9 p13 0 x15).bind fun x17 =>
  ((putV g9 v0 2 2 (.int (x11 + x17))).bind fun g19 =>
  ((getI g19 v0 2 0).bind fun x21 =>
  ((putV g19 v0 2 0 (.int (x21 + (1 : Int32)))).bind fun g23 =>
  (some ((), g23)))))))))))))
set_option maxHeartbeats 4000000 in
set_option maxRecDepth 100000 in
theorem bX2_scanElement_137 {K : HK} {E : HE} {r : Unit} {g' : PH}  (C : VC K E 5 cX2_scanElement RX2 none)  {g : PH} {v0 : Nat} (hf : fX2_scanElement_137  g v0 = some (r, g')) : V K E (hRm 6 139 0 0) 5 (hZ K E none g' 0 0) 0 0 (kS K) g 137 [(0, .ref v0)] [] := by
  unfold fX2_scanElement_137 at hf
  refine V.aload_n (pc := 137) C dX2_scanElement_137 0 rfl ?_
  refine V.dup (pc := 138) C dX2_scanElement_138 rfl ?_
  replace hf := ob_some hf
  obtain ⟨x1, h2, hf⟩ := hf
  refine V.getI (pc := 139) C kX2 (k := 1) (by decide) wd_448 h2 dX2_scanElement_139 ?_
  refine V.aload_n (pc := 142) C dX2_scanElement_142 0 rfl ?_
  replace hf := ob_some hf
  obtain ⟨p3, h4, hf⟩ := hf
  refine V.getR (pc := 143) C kX2 (k := 6) (by decide) wd_457 h4 dX2_scanElement_143 ?_
  refine V.aload_n (pc := 146) C dX2_scanElement_146 0 rfl ?_
  replace hf := ob_some hf
  obtain ⟨x5, h6, hf⟩ := hf
  refine V.getI (pc := 147) C kX2 (k := 0) (by decide) wd_444 h6 dX2_scanElement_147 ?_
  replace hf := ob_some hf
  obtain ⟨x7, h8, hf⟩ := hf
  refine V.iald (pc := 150) C h8 dX2_scanElement_150 ?_
  refine V.iadd (pc := 151) C dX2_scanElement_151 ?_
  replace hf := ob_some hf
  obtain ⟨g9, h10, hf⟩ := hf
  refine V.putX (pc := 152) C kX2 (k := 1) (by decide) wd_448 rfl rfl rfl h10 dX2_scanElement_152 ?_
  refine V.aload_n (pc := 155) C dX2_scanElement_155 0 rfl ?_
  refine V.dup (pc := 156) C dX2_scanElement_156 rfl ?_
  replace hf := ob_some hf
  obtain ⟨x11, h12, hf⟩ := hf
  refine V.getI (pc := 157) C kX2 (k := 2) (by decide) wd_450 h12 dX2_scanElement_157 ?_
  refine V.aload_n (pc := 160) C dX2_scanElement_160 0 rfl ?_
  replace hf := ob_some hf
  obtain ⟨p13, h14, hf⟩ := hf
  refine V.getR (pc := 161) C kX2 (k := 7) (by decide) wd_458 h14 dX2_scanElement_161 ?_
  refine V.aload_n (pc := 164) C dX2_scanElement_164 0 rfl ?_
  replace hf := ob_some hf
  obtain ⟨x15, h16, hf⟩ := hf
  refine V.getI (pc := 165) C kX2 (k := 0) (by decide) wd_444 h16 dX2_scanElement_165 ?_
  replace hf := ob_some hf
  obtain ⟨x17, h18, hf⟩ := hf
  refine V.iald (pc := 168) C h18 dX2_scanElement_168 ?_
  refine V.iadd (pc := 169) C dX2_scanElement_169 ?_
  replace hf := ob_some hf
  obtain ⟨g19, h20, hf⟩ := hf
  refine V.putX (pc := 170) C kX2 (k := 2) (by decide) wd_450 rfl rfl rfl h20 dX2_scanElement_170 ?_
  refine V.aload_n (pc := 173) C dX2_scanElement_173 0 rfl ?_
  refine V.dup (pc := 174) C dX2_scanElement_174 rfl ?_
  replace hf := ob_some hf
  obtain ⟨x21, h22, hf⟩ := hf
  refine V.getI (pc := 175) C kX2 (k := 0) (by decide) wd_444 h22 dX2_scanElement_175 ?_
  refine V.iconst (pc := 178) C dX2_scanElement_178 (v := (1 : Int32)) (by decide) ?_
  refine V.iadd (pc := 179) C dX2_scanElement_179 ?_
  replace hf := ob_some hf
  obtain ⟨g23, h24, hf⟩ := hf
  refine V.putX (pc := 180) C kX2 (k := 0) (by decide) wd_444 rfl rfl rfl h24 dX2_scanElement_180 ?_
  obtain ⟨f1, f2⟩ := fin2 hf
  clear hf
  subst f1
  subst f2
  exact V.vret (pc := 183) C rfl dX2_scanElement_183
def fX2_scanElement_110  : Nat → PH → Nat → Nat → Int32 → Option (Unit × PH)
  | 0, _, _, _, _ => none
  | n + 1, g, v0, v1, v4 =>
  if (6 : Int32) ≤ v4 then (fX2_scanElement_137 g v0) else
  ((fX6_take g v1 13).bind fun q2 =>
  (if q2.1 = 0 then ((fX2_scanOp q2.2 v0 v1).bind fun q5 =>
  (fX2_scanElement_110 n q5.2 v0 v1 (v4 + (1 : Int32)))) else
  (fX2_scanElement_137 q2.2 v0)))
set_option maxHeartbeats 4000000 in
set_option maxRecDepth 100000 in
theorem bX2_scanElement_110 {K : HK} {E : HE} {r : Unit} {g' : PH}  (C : VC K E 5 cX2_scanElement RX2 none)  : ∀ (n : Nat) (g : PH) (v0 : Nat) (v1 : Nat) (v4 : Int32), fX2_scanElement_110  n g v0 v1 v4 = some (r, g') → V K E (hRm 6 139 0 0) 5 (hZ K E none g' 0 0) 0 0 (kS K) g 110 [(0, .ref v0), (1, .ref v1), (4, .int v4)] [] := by
  intro n
  induction n with
  | zero =>
    intro g v0 v1 v4 hf
    rw [fX2_scanElement_110] at hf
    cases hf
  | succ n ih =>
    intro g v0 v1 v4 hf
    rw [fX2_scanElement_110] at hf
    refine V.iload (pc := 110) C dX2_scanElement_110 2 rfl ?_
    refine V.bipush (pc := 112) C dX2_scanElement_112 (v := (6 : Int32)) (by decide) ?_
    refine V.icmp_ge (pc := 114) (t := 137) C dX2_scanElement_114 (by decide) (fun c1 => ?_) (fun c1 => ?_)
    · replace hf := ite_t c1 hf
      refine V.sub (L' := [(0, .ref v0)]) [0] rfl ?_
      exact bX2_scanElement_137 C  hf
    replace hf := ite_f c1 hf
    refine V.aload_n (pc := 117) C dX2_scanElement_117 1 rfl ?_
    refine V.ldcS (pc := 118) C (j := 13) rfl dX2_scanElement_118 ?_
    replace hf := ob_some hf
    obtain ⟨q2, h3, hf⟩ := hf
    refine V.callV0i (pc := 120) C hyX6_take wd_523 (mX6_take (r := q2.1) (g' := q2.2) K.2.1 E (kS K) h3) rfl rfl rfl (oX6_take h3) ⟨Nat.le_of_ble_eq_true rfl, Nat.le_of_ble_eq_true rfl⟩ (Nat.le_of_ble_eq_true rfl) dX2_scanElement_120 ⟨Nat.zero_le _, Nat.zero_le _⟩ rfl ?_
    refine V.if_ne (pc := 123) (t := 137) C dX2_scanElement_123 (by decide) (fun c4 => ?_) (fun c4 => ?_)
    · replace hf := ite_f c4 hf
      refine V.sub (L' := [(0, .ref v0)]) [0] rfl ?_
      exact bX2_scanElement_137 C  hf
    replace hf := ite_t c4 hf
    refine V.aload_n (pc := 126) C dX2_scanElement_126 0 rfl ?_
    refine V.aload_n (pc := 127) C dX2_scanElement_127 1 rfl ?_
    replace hf := ob_some hf
    obtain ⟨q5, h6, hf⟩ := hf
    refine V.callV0v (pc := 128) C hyX2_scanOp wd_524 (mX2_scanOp (r := q5.1) (g' := q5.2) K.2.1 E (kS K) h6) rfl rfl rfl (oX2_scanOp h6) ⟨Nat.le_of_ble_eq_true rfl, Nat.le_of_ble_eq_true rfl⟩ (Nat.le_of_ble_eq_true rfl) dX2_scanElement_128 ⟨Nat.zero_le _, Nat.zero_le _⟩ rfl ?_
    refine V.iinc (pc := 131) (v := (v4 + (1 : Int32))) (L' := [(4, .int (v4 + (1 : Int32))), (0, .ref v0), (1, .ref v1)]) C dX2_scanElement_131 2 rfl rfl (by decide) rfl ?_
    refine V.goto (pc := 134) (t := 110) C dX2_scanElement_134 (by decide) ?_
    refine V.sub (L' := [(0, .ref v0), (1, .ref v1), (4, .int (v4 + (1 : Int32)))]) [1, 2, 0] rfl ?_
    exact ih _ _ _ _ hf
def fX2_scanElement_91  (g : PH) (v0 : Nat) (v1 : Nat) (s0 : Int32) (s1 : Int32) (s2 : Nat) : Option (Unit × PH) :=
  (putV g s2 2 3 (.int (s1 + s0))).bind fun g1 =>
  ((fX6_take g1 v1 10).bind fun q3 =>
  ((fX2_scanOp q3.2 v0 v1).bind fun q5 =>
  (fX2_scanElement_110 FUEL q5.2 v0 v1 (0 : Int32))))
set_option maxHeartbeats 4000000 in
set_option maxRecDepth 100000 in
theorem bX2_scanElement_91 {K : HK} {E : HE} {r : Unit} {g' : PH}  (C : VC K E 5 cX2_scanElement RX2 none)  {g : PH} {v0 : Nat} {v1 : Nat} {s0 : Int32} {s1 : Int32} {s2 : Nat} (hf : fX2_scanElement_91  g v0 v1 s0 s1 s2 = some (r, g')) : V K E (hRm 6 139 0 0) 5 (hZ K E none g' 0 0) 0 0 (kS K) g 91 [(0, .ref v0), (1, .ref v1)] [.int s0, .int s1, .ref s2] := by
  unfold fX2_scanElement_91 at hf
  refine V.iadd (pc := 91) C dX2_scanElement_91 ?_
  replace hf := ob_some hf
  obtain ⟨g1, h2, hf⟩ := hf
  refine V.putX (pc := 92) C kX2 (k := 3) (by decide) wd_452 rfl rfl rfl h2 dX2_scanElement_92 ?_
  refine V.aload_n (pc := 95) C dX2_scanElement_95 1 rfl ?_
  refine V.ldcS (pc := 96) C (j := 10) rfl dX2_scanElement_96 ?_
  replace hf := ob_some hf
  obtain ⟨q3, h4, hf⟩ := hf
  refine V.callV0i (pc := 98) C hyX6_take wd_523 (mX6_take (r := q3.1) (g' := q3.2) K.2.1 E (kS K) h4) rfl rfl rfl (oX6_take h4) ⟨Nat.le_of_ble_eq_true rfl, Nat.le_of_ble_eq_true rfl⟩ (Nat.le_of_ble_eq_true rfl) dX2_scanElement_98 ⟨Nat.zero_le _, Nat.zero_le _⟩ rfl ?_
  refine V.pop (pc := 101) C dX2_scanElement_101 rfl ?_
  refine V.aload_n (pc := 102) C dX2_scanElement_102 0 rfl ?_
  refine V.aload_n (pc := 103) C dX2_scanElement_103 1 rfl ?_
  replace hf := ob_some hf
  obtain ⟨q5, h6, hf⟩ := hf
  refine V.callV0v (pc := 104) C hyX2_scanOp wd_524 (mX2_scanOp (r := q5.1) (g' := q5.2) K.2.1 E (kS K) h6) rfl rfl rfl (oX2_scanOp h6) ⟨Nat.le_of_ble_eq_true rfl, Nat.le_of_ble_eq_true rfl⟩ (Nat.le_of_ble_eq_true rfl) dX2_scanElement_104 ⟨Nat.zero_le _, Nat.zero_le _⟩ rfl ?_
  refine V.iconst (pc := 107) C dX2_scanElement_107 (v := (0 : Int32)) (by decide) ?_
  refine V.istore (pc := 108) (L' := [(4, .int (0 : Int32)), (0, .ref v0), (1, .ref v1)]) C dX2_scanElement_108 (by decide) rfl ?_
  refine V.sub (L' := [(0, .ref v0), (1, .ref v1), (4, .int (0 : Int32))]) [1, 2, 0] rfl ?_
  exact bX2_scanElement_110 C  _ _ _ _ _ hf
def fX2_scanElement_75  (g : PH) (v0 : Nat) (v1 : Nat) (v3 : Int32) (s0 : Int32) (s1 : Int32) (s2 : Nat) : Option (Unit × PH) :=
  (stI g s2 0 s1 s0).bind fun g1 =>
  ((getI g1 v0 2 3).bind fun x3 =>
  (if v3 = (2 : Int32) then (fX2_scanElement_91 g1 v0 v1 (1 : Int32) x3 v0) else
  (fX2_scanElement_91 g1 v0 v1 (0 : Int32) x3 v0)))
set_option maxHeartbeats 4000000 in
set_option maxRecDepth 100000 in
theorem bX2_scanElement_75 {K : HK} {E : HE} {r : Unit} {g' : PH}  (C : VC K E 5 cX2_scanElement RX2 none)  {g : PH} {v0 : Nat} {v1 : Nat} {v3 : Int32} {s0 : Int32} {s1 : Int32} {s2 : Nat} (hf : fX2_scanElement_75  g v0 v1 v3 s0 s1 s2 = some (r, g')) : V K E (hRm 6 139 0 0) 5 (hZ K E none g' 0 0) 0 0 (kS K) g 75 [(0, .ref v0), (1, .ref v1), (3, .int v3)] [.int s0, .int s1, .ref s2] := by
  unfold fX2_scanElement_75 at hf
  replace hf := ob_some hf
  obtain ⟨g1, h2, hf⟩ := hf
  refine V.iast (pc := 75) C h2 dX2_scanElement_75 ?_
  refine V.aload_n (pc := 76) C dX2_scanElement_76 0 rfl ?_
  refine V.dup (pc := 77) C dX2_scanElement_77 rfl ?_
  replace hf := ob_some hf
  obtain ⟨x3, h4, hf⟩ := hf
  refine V.getI (pc := 78) C kX2 (k := 3) (by decide) wd_452 h4 dX2_scanElement_78 ?_
  refine V.iload_n (pc := 81) C dX2_scanElement_81 2 rfl ?_
  refine V.iconst (pc := 82) C dX2_scanElement_82 (v := (2 : Int32)) (by decide) ?_
  refine V.icmp_ne (pc := 83) (t := 90) C dX2_scanElement_83 (by decide) (fun c5 => ?_) (fun c5 => ?_)
  · replace hf := ite_f c5 hf
    refine V.iconst (pc := 90) C dX2_scanElement_90 (v := (0 : Int32)) (by decide) ?_
    refine V.sub (L' := [(0, .ref v0), (1, .ref v1)]) [0, 1] rfl ?_
    exact bX2_scanElement_91 C  hf
  replace hf := ite_t c5 hf
  refine V.iconst (pc := 86) C dX2_scanElement_86 (v := (1 : Int32)) (by decide) ?_
  refine V.goto (pc := 87) (t := 91) C dX2_scanElement_87 (by decide) ?_
  refine V.sub (L' := [(0, .ref v0), (1, .ref v1)]) [0, 1] rfl ?_
  exact bX2_scanElement_91 C  hf
def fX2_scanElement_52  (g : PH) (v0 : Nat) (v1 : Nat) (v3 : Int32) : Option (Unit × PH) :=
  (getR g v0 2 5).bind fun p1 =>
  ((getI g v0 2 0).bind fun x3 =>
  (if v3 = (2 : Int32) then ((getI g v0 2 3).bind fun x6 =>
  (fX2_scanElement_75 g v0 v1 v3 ((2 : Int32) + x6) x3 p1)) else
  (fX2_scanElement_75 g v0 v1 v3 v3 x3 p1)))
set_option maxHeartbeats 4000000 in
set_option maxRecDepth 100000 in
theorem bX2_scanElement_52 {K : HK} {E : HE} {r : Unit} {g' : PH}  (C : VC K E 5 cX2_scanElement RX2 none)  {g : PH} {v0 : Nat} {v1 : Nat} {v3 : Int32} (hf : fX2_scanElement_52  g v0 v1 v3 = some (r, g')) : V K E (hRm 6 139 0 0) 5 (hZ K E none g' 0 0) 0 0 (kS K) g 52 [(0, .ref v0), (1, .ref v1), (3, .int v3)] [] := by
  unfold fX2_scanElement_52 at hf
  refine V.aload_n (pc := 52) C dX2_scanElement_52 0 rfl ?_
  replace hf := ob_some hf
  obtain ⟨p1, h2, hf⟩ := hf
  refine V.getR (pc := 53) C kX2 (k := 5) (by decide) wd_456 h2 dX2_scanElement_53 ?_
  refine V.aload_n (pc := 56) C dX2_scanElement_56 0 rfl ?_
  replace hf := ob_some hf
  obtain ⟨x3, h4, hf⟩ := hf
  refine V.getI (pc := 57) C kX2 (k := 0) (by decide) wd_444 h4 dX2_scanElement_57 ?_
  refine V.iload_n (pc := 60) C dX2_scanElement_60 2 rfl ?_
  refine V.iconst (pc := 61) C dX2_scanElement_61 (v := (2 : Int32)) (by decide) ?_
  refine V.icmp_ne (pc := 62) (t := 74) C dX2_scanElement_62 (by decide) (fun c5 => ?_) (fun c5 => ?_)
  · replace hf := ite_f c5 hf
    refine V.iload_n (pc := 74) C dX2_scanElement_74 2 rfl ?_
    refine V.sub (L' := [(0, .ref v0), (1, .ref v1), (3, .int v3)]) [0, 1, 2] rfl ?_
    exact bX2_scanElement_75 C  hf
  replace hf := ite_t c5 hf
  refine V.iconst (pc := 65) C dX2_scanElement_65 (v := (2 : Int32)) (by decide) ?_
  refine V.aload_n (pc := 66) C dX2_scanElement_66 0 rfl ?_
  replace hf := ob_some hf
  obtain ⟨x6, h7, hf⟩ := hf
  refine V.getI (pc := 67) C kX2 (k := 3) (by decide) wd_452 h7 dX2_scanElement_67 ?_
  refine V.iadd (pc := 70) C dX2_scanElement_70 ?_
  refine V.goto (pc := 71) (t := 75) C dX2_scanElement_71 (by decide) ?_
  refine V.sub (L' := [(0, .ref v0), (1, .ref v1), (3, .int v3)]) [0, 1, 2] rfl ?_
  exact bX2_scanElement_75 C  hf
def fX2_scanElement (g : PH) (a0 : Nat) (a1 : Nat) : Option (Unit × PH) :=
  okb (isO g a0 2) ((fX6_nextPlace g a1).bind fun q1 =>
  ((fX2_scanWay q1.2 a0 a1).bind fun q3 =>
  (if q3.1 = (-1 : Int32) then ((fX6_blame q3.2 a1 q1.1 (1 : Int32)).bind fun q13 =>
  (some ((), q13.2))) else
  ((getI q3.2 a0 2 0).bind fun x6 =>
  (if (8 : Int32) ≤ x6 then (fX2_scanElement_45 q3.2 a1 q1.1) else
  (if q3.1 = (2 : Int32) then ((getI q3.2 a0 2 3).bind fun x10 =>
  (if x10 < (3 : Int32) then (fX2_scanElement_52 q3.2 a0 a1 q3.1) else
  (fX2_scanElement_45 q3.2 a1 q1.1))) else
  (fX2_scanElement_52 q3.2 a0 a1 q3.1)))))))
theorem oX2_scanElement {g : PH} {a0 : Nat} {a1 : Nat} {q : (Unit × PH)} (h : fX2_scanElement g a0 a1 = some q) : isO g a0 2 = true := by unfold fX2_scanElement at h; exact (okb_some h).1
theorem hyX2_scanElement : hMet yX2_scanElement RX2 cX2_scanElement 5 none 1 := ⟨wd_487, wd_486, ws_11, wd_14, rfl, by decide +kernel, by decide +kernel, by decide +kernel⟩
set_option maxHeartbeats 4000000 in
set_option maxRecDepth 100000 in
theorem mX2_scanElement (l : Launch) (E : HE) (sz : Nat) {g g' : PH} {a0 : Nat} {a1 : Nat} {r : Unit} (hf : fX2_scanElement g a0 a1 = some (r, g')) : hM l E yX2_scanElement cX2_scanElement 5 none 6 139 0 0 sz g [.ref a0, .ref a1] none g' := by
  refine hM.of (by decide) (Nat.le_of_ble_eq_true rfl) (fun K hl C hin hsz => ?_)
  subst hl
  subst hsz
  have C : VC K E 5 cX2_scanElement RX2 none := C
  unfold fX2_scanElement at hf
  replace hf := okb_some hf
  obtain ⟨ho, hf⟩ := hf
  refine V.start (L' := [(0, .ref a0), (1, .ref a1)]) rfl ?_
  refine V.aload_n (pc := 0) C dX2_scanElement_0 1 rfl ?_
  replace hf := ob_some hf
  obtain ⟨q1, h2, hf⟩ := hf
  refine V.callV0i (pc := 1) C hyX6_nextPlace wd_488 (mX6_nextPlace (r := q1.1) (g' := q1.2) K.2.1 E (kS K) h2) rfl rfl rfl (oX6_nextPlace h2) ⟨Nat.le_of_ble_eq_true rfl, Nat.le_of_ble_eq_true rfl⟩ (Nat.le_of_ble_eq_true rfl) dX2_scanElement_1 ⟨Nat.zero_le _, Nat.zero_le _⟩ rfl ?_
  refine V.istore_n (pc := 4) (L' := [(2, .int q1.1), (0, .ref a0), (1, .ref a1)]) C dX2_scanElement_4 (by decide) rfl ?_
  refine V.aload_n (pc := 5) C dX2_scanElement_5 1 rfl ?_
  refine V.aload_n (pc := 6) C dX2_scanElement_6 2 rfl ?_
  replace hf := ob_some hf
  obtain ⟨q3, h4, hf⟩ := hf
  refine V.callV0i (pc := 7) C hyX2_scanWay wd_489 (mX2_scanWay (r := q3.1) (g' := q3.2) K.2.1 E (kS K) h4) rfl rfl rfl (oX2_scanWay h4) ⟨Nat.le_of_ble_eq_true rfl, Nat.le_of_ble_eq_true rfl⟩ (Nat.le_of_ble_eq_true rfl) dX2_scanElement_7 ⟨Nat.zero_le _, Nat.zero_le _⟩ rfl ?_
  refine V.istore_n (pc := 10) (L' := [(3, .int q3.1), (2, .int q1.1), (0, .ref a0), (1, .ref a1)]) C dX2_scanElement_10 (by decide) rfl ?_
  refine V.iload_n (pc := 11) C dX2_scanElement_11 0 rfl ?_
  refine V.iconst (pc := 12) C dX2_scanElement_12 (v := (-1 : Int32)) (by decide) ?_
  refine V.icmp_ne (pc := 13) (t := 23) C dX2_scanElement_13 (by decide) (fun c5 => ?_) (fun c5 => ?_)
  · replace hf := ite_f c5 hf
    refine V.aload_n (pc := 23) C dX2_scanElement_23 2 rfl ?_
    replace hf := ob_some hf
    obtain ⟨x6, h7, hf⟩ := hf
    refine V.getI (pc := 24) C kX2 (k := 0) (by decide) wd_444 h7 dX2_scanElement_24 ?_
    refine V.bipush (pc := 27) C dX2_scanElement_27 (v := (8 : Int32)) (by decide) ?_
    refine V.icmp_ge (pc := 29) (t := 45) C dX2_scanElement_29 (by decide) (fun c8 => ?_) (fun c8 => ?_)
    · replace hf := ite_t c8 hf
      refine V.sub (L' := [(1, .ref a1), (2, .int q1.1)]) [3, 1] rfl ?_
      exact bX2_scanElement_45 C  hf
    replace hf := ite_f c8 hf
    refine V.iload_n (pc := 32) C dX2_scanElement_32 0 rfl ?_
    refine V.iconst (pc := 33) C dX2_scanElement_33 (v := (2 : Int32)) (by decide) ?_
    refine V.icmp_ne (pc := 34) (t := 52) C dX2_scanElement_34 (by decide) (fun c9 => ?_) (fun c9 => ?_)
    · replace hf := ite_f c9 hf
      refine V.sub (L' := [(0, .ref a0), (1, .ref a1), (3, .int q3.1)]) [2, 3, 0] rfl ?_
      exact bX2_scanElement_52 C  hf
    replace hf := ite_t c9 hf
    refine V.aload_n (pc := 37) C dX2_scanElement_37 2 rfl ?_
    replace hf := ob_some hf
    obtain ⟨x10, h11, hf⟩ := hf
    refine V.getI (pc := 38) C kX2 (k := 3) (by decide) wd_452 h11 dX2_scanElement_38 ?_
    refine V.iconst (pc := 41) C dX2_scanElement_41 (v := (3 : Int32)) (by decide) ?_
    refine V.icmp_lt (pc := 42) (t := 52) C dX2_scanElement_42 (by decide) (fun c12 => ?_) (fun c12 => ?_)
    · replace hf := ite_t c12 hf
      refine V.sub (L' := [(0, .ref a0), (1, .ref a1), (3, .int q3.1)]) [2, 3, 0] rfl ?_
      exact bX2_scanElement_52 C  hf
    replace hf := ite_f c12 hf
    refine V.sub (L' := [(1, .ref a1), (2, .int q1.1)]) [3, 1] rfl ?_
    exact bX2_scanElement_45 C  hf
  replace hf := ite_t c5 hf
  refine V.aload_n (pc := 16) C dX2_scanElement_16 3 rfl ?_
  refine V.iload_n (pc := 17) C dX2_scanElement_17 1 rfl ?_
  refine V.iconst (pc := 18) C dX2_scanElement_18 (v := (1 : Int32)) (by decide) ?_
  replace hf := ob_some hf
  obtain ⟨q13, h14, hf⟩ := hf
  refine V.callV0v (pc := 19) C hyX6_blame wd_521 (mX6_blame (r := q13.1) (g' := q13.2) K.2.1 E (kS K) h14) rfl rfl rfl (oX6_blame h14) ⟨Nat.le_of_ble_eq_true rfl, Nat.le_of_ble_eq_true rfl⟩ (Nat.le_of_ble_eq_true rfl) dX2_scanElement_19 ⟨Nat.zero_le _, Nat.zero_le _⟩ rfl ?_
  obtain ⟨f1, f2⟩ := fin2 hf
  clear hf
  subst f1
  subst f2
  exact V.vret (pc := 22) C rfl dX2_scanElement_22
theorem dX2_scan_0 : decode cX2_scan 0 = .ok (.aload_n 1, 1) := by decide +kernel
theorem dX2_scan_1 : decode cX2_scan 1 = .ok (.invokevirtual 40, 3) := by decide +kernel
theorem dX2_scan_4 : decode cX2_scan 4 = .ok (.aload_n 0, 1) := by decide +kernel
theorem dX2_scan_5 : decode cX2_scan 5 = .ok (.aload_n 1, 1) := by decide +kernel
theorem dX2_scan_6 : decode cX2_scan 6 = .ok (.invokevirtual 45, 3) := by decide +kernel
theorem dX2_scan_9 : decode cX2_scan 9 = .ok (.iconst 0, 1) := by decide +kernel
theorem dX2_scan_10 : decode cX2_scan 10 = .ok (.istore_n 2, 1) := by decide +kernel
theorem dX2_scan_11 : decode cX2_scan 11 = .ok (.iload_n 2, 1) := by decide +kernel
theorem dX2_scan_12 : decode cX2_scan 12 = .ok (.bipush 8, 2) := by decide +kernel
theorem dX2_scan_14 : decode cX2_scan 14 = .ok (.if_icmp .ge 28, 3) := by decide +kernel
theorem dX2_scan_17 : decode cX2_scan 17 = .ok (.aload_n 1, 1) := by decide +kernel
theorem dX2_scan_18 : decode cX2_scan 18 = .ok (.invokevirtual 49, 3) := by decide +kernel
theorem dX2_scan_21 : decode cX2_scan 21 = .ok (.ifCond .ne 21, 3) := by decide +kernel
theorem dX2_scan_24 : decode cX2_scan 24 = .ok (.aload_n 1, 1) := by decide +kernel
theorem dX2_scan_25 : decode cX2_scan 25 = .ok (.ldc 53, 2) := by decide +kernel
theorem dX2_scan_27 : decode cX2_scan 27 = .ok (.invokevirtual 55, 3) := by decide +kernel
theorem dX2_scan_30 : decode cX2_scan 30 = .ok (.pop, 1) := by decide +kernel
theorem dX2_scan_31 : decode cX2_scan 31 = .ok (.aload_n 0, 1) := by decide +kernel
theorem dX2_scan_32 : decode cX2_scan 32 = .ok (.aload_n 1, 1) := by decide +kernel
theorem dX2_scan_33 : decode cX2_scan 33 = .ok (.invokevirtual 45, 3) := by decide +kernel
theorem dX2_scan_36 : decode cX2_scan 36 = .ok (.iinc 2 1, 3) := by decide +kernel
theorem dX2_scan_39 : decode cX2_scan 39 = .ok (.goto (-28), 3) := by decide +kernel
theorem dX2_scan_42 : decode cX2_scan 42 = .ok (.return_, 1) := by decide +kernel
def fX2_scan_11  : Nat → PH → Nat → Nat → Int32 → Option (Unit × PH)
  | 0, _, _, _, _ => none
  | n + 1, g, v0, v1, v2 =>
  if (8 : Int32) ≤ v2 then (some ((), g)) else
  ((fX6_isOver g v1).bind fun q2 =>
  (if q2.1 = 0 then ((fX6_take q2.2 v1 14).bind fun q5 =>
  ((fX2_scanElement q5.2 v0 v1).bind fun q7 =>
  (fX2_scan_11 n q7.2 v0 v1 (v2 + (1 : Int32))))) else
  (some ((), q2.2))))
set_option maxHeartbeats 4000000 in
set_option maxRecDepth 100000 in
theorem bX2_scan_11 {K : HK} {E : HE} {r : Unit} {g' : PH}  (C : VC K E 3 cX2_scan RX2 none)  : ∀ (n : Nat) (g : PH) (v0 : Nat) (v1 : Nat) (v2 : Int32), fX2_scan_11  n g v0 v1 v2 = some (r, g') → V K E (hRm 7 163 0 0) 3 (hZ K E none g' 0 0) 0 0 (kS K) g 11 [(0, .ref v0), (1, .ref v1), (2, .int v2)] [] := by
  intro n
  induction n with
  | zero =>
    intro g v0 v1 v2 hf
    rw [fX2_scan_11] at hf
    cases hf
  | succ n ih =>
    intro g v0 v1 v2 hf
    rw [fX2_scan_11] at hf
    refine V.iload_n (pc := 11) C dX2_scan_11 2 rfl ?_
    refine V.bipush (pc := 12) C dX2_scan_12 (v := (8 : Int32)) (by decide) ?_
    refine V.icmp_ge (pc := 14) (t := 42) C dX2_scan_14 (by decide) (fun c1 => ?_) (fun c1 => ?_)
    · replace hf := ite_t c1 hf
      obtain ⟨f1, f2⟩ := fin2 hf
      clear hf
      subst f1
      subst f2
      exact V.vret (pc := 42) C rfl dX2_scan_42
    replace hf := ite_f c1 hf
    refine V.aload_n (pc := 17) C dX2_scan_17 1 rfl ?_
    replace hf := ob_some hf
    obtain ⟨q2, h3, hf⟩ := hf
    refine V.callV0i (pc := 18) C hyX6_isOver wd_531 (mX6_isOver (r := q2.1) (g' := q2.2) K.2.1 E (kS K) h3) rfl rfl rfl (oX6_isOver h3) ⟨Nat.le_of_ble_eq_true rfl, Nat.le_of_ble_eq_true rfl⟩ (Nat.le_of_ble_eq_true rfl) dX2_scan_18 ⟨Nat.zero_le _, Nat.zero_le _⟩ rfl ?_
    refine V.if_ne (pc := 21) (t := 42) C dX2_scan_21 (by decide) (fun c4 => ?_) (fun c4 => ?_)
    · replace hf := ite_f c4 hf
      obtain ⟨f1, f2⟩ := fin2 hf
      clear hf
      subst f1
      subst f2
      exact V.vret (pc := 42) C rfl dX2_scan_42
    replace hf := ite_t c4 hf
    refine V.aload_n (pc := 24) C dX2_scan_24 1 rfl ?_
    refine V.ldcS (pc := 25) C (j := 14) rfl dX2_scan_25 ?_
    replace hf := ob_some hf
    obtain ⟨q5, h6, hf⟩ := hf
    refine V.callV0i (pc := 27) C hyX6_take wd_523 (mX6_take (r := q5.1) (g' := q5.2) K.2.1 E (kS K) h6) rfl rfl rfl (oX6_take h6) ⟨Nat.le_of_ble_eq_true rfl, Nat.le_of_ble_eq_true rfl⟩ (Nat.le_of_ble_eq_true rfl) dX2_scan_27 ⟨Nat.zero_le _, Nat.zero_le _⟩ rfl ?_
    refine V.pop (pc := 30) C dX2_scan_30 rfl ?_
    refine V.aload_n (pc := 31) C dX2_scan_31 0 rfl ?_
    refine V.aload_n (pc := 32) C dX2_scan_32 1 rfl ?_
    replace hf := ob_some hf
    obtain ⟨q7, h8, hf⟩ := hf
    refine V.callV0v (pc := 33) C hyX2_scanElement wd_484 (mX2_scanElement (r := q7.1) (g' := q7.2) K.2.1 E (kS K) h8) rfl rfl rfl (oX2_scanElement h8) ⟨Nat.le_of_ble_eq_true rfl, Nat.le_of_ble_eq_true rfl⟩ (Nat.le_of_ble_eq_true rfl) dX2_scan_33 ⟨Nat.zero_le _, Nat.zero_le _⟩ rfl ?_
    refine V.iinc (pc := 36) (v := (v2 + (1 : Int32))) (L' := [(2, .int (v2 + (1 : Int32))), (0, .ref v0), (1, .ref v1)]) C dX2_scan_36 2 rfl rfl (by decide) rfl ?_
    refine V.goto (pc := 39) (t := 11) C dX2_scan_39 (by decide) ?_
    refine V.sub (L' := [(0, .ref v0), (1, .ref v1), (2, .int (v2 + (1 : Int32)))]) [1, 2, 0] rfl ?_
    exact ih _ _ _ _ hf
def fX2_scan (g : PH) (a0 : Nat) (a1 : Nat) : Option (Unit × PH) :=
  okb (isO g a0 2) ((fX6_rewind g a1).bind fun q1 =>
  ((fX2_scanElement q1.2 a0 a1).bind fun q3 =>
  (fX2_scan_11 FUEL q3.2 a0 a1 (0 : Int32))))
theorem oX2_scan {g : PH} {a0 : Nat} {a1 : Nat} {q : (Unit × PH)} (h : fX2_scan g a0 a1 = some q) : isO g a0 2 = true := by unfold fX2_scan at h; exact (okb_some h).1
theorem hyX2_scan : hMet yX2_scan RX2 cX2_scan 3 none 1 := ⟨wd_482, wd_480, wd_481, wd_14, rfl, by decide +kernel, by decide +kernel, by decide +kernel⟩
set_option maxHeartbeats 4000000 in
set_option maxRecDepth 100000 in
theorem mX2_scan (l : Launch) (E : HE) (sz : Nat) {g g' : PH} {a0 : Nat} {a1 : Nat} {r : Unit} (hf : fX2_scan g a0 a1 = some (r, g')) : hM l E yX2_scan cX2_scan 3 none 7 163 0 0 sz g [.ref a0, .ref a1] none g' := by
  refine hM.of (by decide) (Nat.le_of_ble_eq_true rfl) (fun K hl C hin hsz => ?_)
  subst hl
  subst hsz
  have C : VC K E 3 cX2_scan RX2 none := C
  unfold fX2_scan at hf
  replace hf := okb_some hf
  obtain ⟨ho, hf⟩ := hf
  refine V.start (L' := [(0, .ref a0), (1, .ref a1)]) rfl ?_
  refine V.aload_n (pc := 0) C dX2_scan_0 1 rfl ?_
  replace hf := ob_some hf
  obtain ⟨q1, h2, hf⟩ := hf
  refine V.callV0v (pc := 1) C hyX6_rewind wd_483 (mX6_rewind (r := q1.1) (g' := q1.2) K.2.1 E (kS K) h2) rfl rfl rfl (oX6_rewind h2) ⟨Nat.le_of_ble_eq_true rfl, Nat.le_of_ble_eq_true rfl⟩ (Nat.le_of_ble_eq_true rfl) dX2_scan_1 ⟨Nat.zero_le _, Nat.zero_le _⟩ rfl ?_
  refine V.aload_n (pc := 4) C dX2_scan_4 0 rfl ?_
  refine V.aload_n (pc := 5) C dX2_scan_5 1 rfl ?_
  replace hf := ob_some hf
  obtain ⟨q3, h4, hf⟩ := hf
  refine V.callV0v (pc := 6) C hyX2_scanElement wd_484 (mX2_scanElement (r := q3.1) (g' := q3.2) K.2.1 E (kS K) h4) rfl rfl rfl (oX2_scanElement h4) ⟨Nat.le_of_ble_eq_true rfl, Nat.le_of_ble_eq_true rfl⟩ (Nat.le_of_ble_eq_true rfl) dX2_scan_6 ⟨Nat.zero_le _, Nat.zero_le _⟩ rfl ?_
  refine V.iconst (pc := 9) C dX2_scan_9 (v := (0 : Int32)) (by decide) ?_
  refine V.istore_n (pc := 10) (L' := [(2, .int (0 : Int32)), (0, .ref a0), (1, .ref a1)]) C dX2_scan_10 (by decide) rfl ?_
  refine V.sub (L' := [(0, .ref a0), (1, .ref a1), (2, .int (0 : Int32))]) [1, 2, 0] rfl ?_
  exact bX2_scan_11 C  _ _ _ _ _ hf
theorem dX2_wayOf_0 : decode cX2_wayOf 0 = .ok (.iload_n 1, 1) := by decide +kernel
theorem dX2_wayOf_1 : decode cX2_wayOf 1 = .ok (.ifCond .lt 18, 3) := by decide +kernel
theorem dX2_wayOf_4 : decode cX2_wayOf 4 = .ok (.iload_n 1, 1) := by decide +kernel
theorem dX2_wayOf_5 : decode cX2_wayOf 5 = .ok (.bipush 8, 2) := by decide +kernel
theorem dX2_wayOf_7 : decode cX2_wayOf 7 = .ok (.if_icmp .ge 12, 3) := by decide +kernel
theorem dX2_wayOf_10 : decode cX2_wayOf 10 = .ok (.aload_n 0, 1) := by decide +kernel
theorem dX2_wayOf_11 : decode cX2_wayOf 11 = .ok (.getfield 27, 3) := by decide +kernel
theorem dX2_wayOf_14 : decode cX2_wayOf 14 = .ok (.iload_n 1, 1) := by decide +kernel
theorem dX2_wayOf_15 : decode cX2_wayOf 15 = .ok (.iaload, 1) := by decide +kernel
theorem dX2_wayOf_16 : decode cX2_wayOf 16 = .ok (.goto 4, 3) := by decide +kernel
theorem dX2_wayOf_19 : decode cX2_wayOf 19 = .ok (.iconst 0, 1) := by decide +kernel
theorem dX2_wayOf_20 : decode cX2_wayOf 20 = .ok (.ireturn, 1) := by decide +kernel
def fX2_wayOf (g : PH) (a0 : Nat) (a1 : Int32) : Option (Int32 × PH) :=
  okb (isO g a0 2) (if a1 < 0 then (some ((0 : Int32), g)) else
  (if (8 : Int32) ≤ a1 then (some ((0 : Int32), g)) else
  ((getR g a0 2 5).bind fun p3 =>
  ((ldI g p3 0 a1).bind fun x5 =>
  (some (x5, g))))))
theorem oX2_wayOf {g : PH} {a0 : Nat} {a1 : Int32} {q : (Int32 × PH)} (h : fX2_wayOf g a0 a1 = some q) : isO g a0 2 = true := by unfold fX2_wayOf at h; exact (okb_some h).1
theorem hyX2_wayOf : hMet yX2_wayOf RX2 cX2_wayOf 2 (some .int) 1 := ⟨wd_560, wd_558, wd_559, wd_14, rfl, by decide +kernel, by decide +kernel, by decide +kernel⟩
set_option maxHeartbeats 4000000 in
set_option maxRecDepth 100000 in
theorem mX2_wayOf (l : Launch) (E : HE) (sz : Nat) {g g' : PH} {a0 : Nat} {a1 : Int32} {r : Int32} (hf : fX2_wayOf g a0 a1 = some (r, g')) : hM l E yX2_wayOf cX2_wayOf 2 (some .int) 0 0 0 0 sz g [.ref a0, .int a1] (some (.int r)) g' := by
  refine hM.of (by decide) (Nat.le_of_ble_eq_true rfl) (fun K hl C hin hsz => ?_)
  subst hl
  subst hsz
  have C : VC K E 2 cX2_wayOf RX2 (some .int) := C
  unfold fX2_wayOf at hf
  replace hf := okb_some hf
  obtain ⟨ho, hf⟩ := hf
  refine V.start (L' := [(0, .ref a0), (1, .int a1)]) rfl ?_
  refine V.iload_n (pc := 0) C dX2_wayOf_0 1 rfl ?_
  refine V.if_lt (pc := 1) (t := 19) C dX2_wayOf_1 (by decide) (fun c1 => ?_) (fun c1 => ?_)
  · replace hf := ite_t c1 hf
    refine V.iconst (pc := 19) C dX2_wayOf_19 (v := (0 : Int32)) (by decide) ?_
    obtain ⟨f1, f2⟩ := fin2 hf
    clear hf
    subst f1
    subst f2
    exact V.iret (pc := 20) C rfl dX2_wayOf_20
  replace hf := ite_f c1 hf
  refine V.iload_n (pc := 4) C dX2_wayOf_4 1 rfl ?_
  refine V.bipush (pc := 5) C dX2_wayOf_5 (v := (8 : Int32)) (by decide) ?_
  refine V.icmp_ge (pc := 7) (t := 19) C dX2_wayOf_7 (by decide) (fun c2 => ?_) (fun c2 => ?_)
  · replace hf := ite_t c2 hf
    refine V.iconst (pc := 19) C dX2_wayOf_19 (v := (0 : Int32)) (by decide) ?_
    obtain ⟨f1, f2⟩ := fin2 hf
    clear hf
    subst f1
    subst f2
    exact V.iret (pc := 20) C rfl dX2_wayOf_20
  replace hf := ite_f c2 hf
  refine V.aload_n (pc := 10) C dX2_wayOf_10 0 rfl ?_
  replace hf := ob_some hf
  obtain ⟨p3, h4, hf⟩ := hf
  refine V.getR (pc := 11) C kX2 (k := 5) (by decide) wd_456 h4 dX2_wayOf_11 ?_
  refine V.iload_n (pc := 14) C dX2_wayOf_14 1 rfl ?_
  replace hf := ob_some hf
  obtain ⟨x5, h6, hf⟩ := hf
  refine V.iald (pc := 15) C h6 dX2_wayOf_15 ?_
  refine V.goto (pc := 16) (t := 20) C dX2_wayOf_16 (by decide) ?_
  obtain ⟨f1, f2⟩ := fin2 hf
  clear hf
  subst f1
  subst f2
  exact V.iret (pc := 20) C rfl dX2_wayOf_20
theorem dX2_opsOf_0 : decode cX2_opsOf 0 = .ok (.iload_n 1, 1) := by decide +kernel
theorem dX2_opsOf_1 : decode cX2_opsOf 1 = .ok (.ifCond .lt 18, 3) := by decide +kernel
theorem dX2_opsOf_4 : decode cX2_opsOf 4 = .ok (.iload_n 1, 1) := by decide +kernel
theorem dX2_opsOf_5 : decode cX2_opsOf 5 = .ok (.bipush 8, 2) := by decide +kernel
theorem dX2_opsOf_7 : decode cX2_opsOf 7 = .ok (.if_icmp .ge 12, 3) := by decide +kernel
theorem dX2_opsOf_10 : decode cX2_opsOf 10 = .ok (.aload_n 0, 1) := by decide +kernel
theorem dX2_opsOf_11 : decode cX2_opsOf 11 = .ok (.getfield 31, 3) := by decide +kernel
theorem dX2_opsOf_14 : decode cX2_opsOf 14 = .ok (.iload_n 1, 1) := by decide +kernel
theorem dX2_opsOf_15 : decode cX2_opsOf 15 = .ok (.iaload, 1) := by decide +kernel
theorem dX2_opsOf_16 : decode cX2_opsOf 16 = .ok (.goto 4, 3) := by decide +kernel
theorem dX2_opsOf_19 : decode cX2_opsOf 19 = .ok (.iconst 0, 1) := by decide +kernel
theorem dX2_opsOf_20 : decode cX2_opsOf 20 = .ok (.ireturn, 1) := by decide +kernel
def fX2_opsOf (g : PH) (a0 : Nat) (a1 : Int32) : Option (Int32 × PH) :=
  okb (isO g a0 2) (if a1 < 0 then (some ((0 : Int32), g)) else
  (if (8 : Int32) ≤ a1 then (some ((0 : Int32), g)) else
  ((getR g a0 2 6).bind fun p3 =>
  ((ldI g p3 0 a1).bind fun x5 =>
  (some (x5, g))))))
theorem oX2_opsOf {g : PH} {a0 : Nat} {a1 : Int32} {q : (Int32 × PH)} (h : fX2_opsOf g a0 a1 = some q) : isO g a0 2 = true := by unfold fX2_opsOf at h; exact (okb_some h).1
theorem hyX2_opsOf : hMet yX2_opsOf RX2 cX2_opsOf 2 (some .int) 1 := ⟨wd_565, wd_563, wd_564, wd_14, rfl, by decide +kernel, by decide +kernel, by decide +kernel⟩
set_option maxHeartbeats 4000000 in
set_option maxRecDepth 100000 in
theorem mX2_opsOf (l : Launch) (E : HE) (sz : Nat) {g g' : PH} {a0 : Nat} {a1 : Int32} {r : Int32} (hf : fX2_opsOf g a0 a1 = some (r, g')) : hM l E yX2_opsOf cX2_opsOf 2 (some .int) 0 0 0 0 sz g [.ref a0, .int a1] (some (.int r)) g' := by
  refine hM.of (by decide) (Nat.le_of_ble_eq_true rfl) (fun K hl C hin hsz => ?_)
  subst hl
  subst hsz
  have C : VC K E 2 cX2_opsOf RX2 (some .int) := C
  unfold fX2_opsOf at hf
  replace hf := okb_some hf
  obtain ⟨ho, hf⟩ := hf
  refine V.start (L' := [(0, .ref a0), (1, .int a1)]) rfl ?_
  refine V.iload_n (pc := 0) C dX2_opsOf_0 1 rfl ?_
  refine V.if_lt (pc := 1) (t := 19) C dX2_opsOf_1 (by decide) (fun c1 => ?_) (fun c1 => ?_)
  · replace hf := ite_t c1 hf
    refine V.iconst (pc := 19) C dX2_opsOf_19 (v := (0 : Int32)) (by decide) ?_
    obtain ⟨f1, f2⟩ := fin2 hf
    clear hf
    subst f1
    subst f2
    exact V.iret (pc := 20) C rfl dX2_opsOf_20
  replace hf := ite_f c1 hf
  refine V.iload_n (pc := 4) C dX2_opsOf_4 1 rfl ?_
  refine V.bipush (pc := 5) C dX2_opsOf_5 (v := (8 : Int32)) (by decide) ?_
  refine V.icmp_ge (pc := 7) (t := 19) C dX2_opsOf_7 (by decide) (fun c2 => ?_) (fun c2 => ?_)
  · replace hf := ite_t c2 hf
    refine V.iconst (pc := 19) C dX2_opsOf_19 (v := (0 : Int32)) (by decide) ?_
    obtain ⟨f1, f2⟩ := fin2 hf
    clear hf
    subst f1
    subst f2
    exact V.iret (pc := 20) C rfl dX2_opsOf_20
  replace hf := ite_f c2 hf
  refine V.aload_n (pc := 10) C dX2_opsOf_10 0 rfl ?_
  replace hf := ob_some hf
  obtain ⟨p3, h4, hf⟩ := hf
  refine V.getR (pc := 11) C kX2 (k := 6) (by decide) wd_457 h4 dX2_opsOf_11 ?_
  refine V.iload_n (pc := 14) C dX2_opsOf_14 1 rfl ?_
  replace hf := ob_some hf
  obtain ⟨x5, h6, hf⟩ := hf
  refine V.iald (pc := 15) C h6 dX2_opsOf_15 ?_
  refine V.goto (pc := 16) (t := 20) C dX2_opsOf_16 (by decide) ?_
  obtain ⟨f1, f2⟩ := fin2 hf
  clear hf
  subst f1
  subst f2
  exact V.iret (pc := 20) C rfl dX2_opsOf_20
theorem dX2_readsOf_0 : decode cX2_readsOf 0 = .ok (.iload_n 1, 1) := by decide +kernel
theorem dX2_readsOf_1 : decode cX2_readsOf 1 = .ok (.ifCond .lt 18, 3) := by decide +kernel
theorem dX2_readsOf_4 : decode cX2_readsOf 4 = .ok (.iload_n 1, 1) := by decide +kernel
theorem dX2_readsOf_5 : decode cX2_readsOf 5 = .ok (.bipush 8, 2) := by decide +kernel
theorem dX2_readsOf_7 : decode cX2_readsOf 7 = .ok (.if_icmp .ge 12, 3) := by decide +kernel
theorem dX2_readsOf_10 : decode cX2_readsOf 10 = .ok (.aload_n 0, 1) := by decide +kernel
theorem dX2_readsOf_11 : decode cX2_readsOf 11 = .ok (.getfield 34, 3) := by decide +kernel
theorem dX2_readsOf_14 : decode cX2_readsOf 14 = .ok (.iload_n 1, 1) := by decide +kernel
theorem dX2_readsOf_15 : decode cX2_readsOf 15 = .ok (.iaload, 1) := by decide +kernel
theorem dX2_readsOf_16 : decode cX2_readsOf 16 = .ok (.goto 4, 3) := by decide +kernel
theorem dX2_readsOf_19 : decode cX2_readsOf 19 = .ok (.iconst 0, 1) := by decide +kernel
theorem dX2_readsOf_20 : decode cX2_readsOf 20 = .ok (.ireturn, 1) := by decide +kernel
def fX2_readsOf (g : PH) (a0 : Nat) (a1 : Int32) : Option (Int32 × PH) :=
  okb (isO g a0 2) (if a1 < 0 then (some ((0 : Int32), g)) else
  (if (8 : Int32) ≤ a1 then (some ((0 : Int32), g)) else
  ((getR g a0 2 7).bind fun p3 =>
  ((ldI g p3 0 a1).bind fun x5 =>
  (some (x5, g))))))
theorem oX2_readsOf {g : PH} {a0 : Nat} {a1 : Int32} {q : (Int32 × PH)} (h : fX2_readsOf g a0 a1 = some q) : isO g a0 2 = true := by unfold fX2_readsOf at h; exact (okb_some h).1
theorem hyX2_readsOf : hMet yX2_readsOf RX2 cX2_readsOf 2 (some .int) 1 := ⟨wd_611, wd_609, wd_610, wd_14, rfl, by decide +kernel, by decide +kernel, by decide +kernel⟩
set_option maxHeartbeats 4000000 in
set_option maxRecDepth 100000 in
theorem mX2_readsOf (l : Launch) (E : HE) (sz : Nat) {g g' : PH} {a0 : Nat} {a1 : Int32} {r : Int32} (hf : fX2_readsOf g a0 a1 = some (r, g')) : hM l E yX2_readsOf cX2_readsOf 2 (some .int) 0 0 0 0 sz g [.ref a0, .int a1] (some (.int r)) g' := by
  refine hM.of (by decide) (Nat.le_of_ble_eq_true rfl) (fun K hl C hin hsz => ?_)
  subst hl
  subst hsz
  have C : VC K E 2 cX2_readsOf RX2 (some .int) := C
  unfold fX2_readsOf at hf
  replace hf := okb_some hf
  obtain ⟨ho, hf⟩ := hf
  refine V.start (L' := [(0, .ref a0), (1, .int a1)]) rfl ?_
  refine V.iload_n (pc := 0) C dX2_readsOf_0 1 rfl ?_
  refine V.if_lt (pc := 1) (t := 19) C dX2_readsOf_1 (by decide) (fun c1 => ?_) (fun c1 => ?_)
  · replace hf := ite_t c1 hf
    refine V.iconst (pc := 19) C dX2_readsOf_19 (v := (0 : Int32)) (by decide) ?_
    obtain ⟨f1, f2⟩ := fin2 hf
    clear hf
    subst f1
    subst f2
    exact V.iret (pc := 20) C rfl dX2_readsOf_20
  replace hf := ite_f c1 hf
  refine V.iload_n (pc := 4) C dX2_readsOf_4 1 rfl ?_
  refine V.bipush (pc := 5) C dX2_readsOf_5 (v := (8 : Int32)) (by decide) ?_
  refine V.icmp_ge (pc := 7) (t := 19) C dX2_readsOf_7 (by decide) (fun c2 => ?_) (fun c2 => ?_)
  · replace hf := ite_t c2 hf
    refine V.iconst (pc := 19) C dX2_readsOf_19 (v := (0 : Int32)) (by decide) ?_
    obtain ⟨f1, f2⟩ := fin2 hf
    clear hf
    subst f1
    subst f2
    exact V.iret (pc := 20) C rfl dX2_readsOf_20
  replace hf := ite_f c2 hf
  refine V.aload_n (pc := 10) C dX2_readsOf_10 0 rfl ?_
  replace hf := ob_some hf
  obtain ⟨p3, h4, hf⟩ := hf
  refine V.getR (pc := 11) C kX2 (k := 7) (by decide) wd_458 h4 dX2_readsOf_11 ?_
  refine V.iload_n (pc := 14) C dX2_readsOf_14 1 rfl ?_
  replace hf := ob_some hf
  obtain ⟨x5, h6, hf⟩ := hf
  refine V.iald (pc := 15) C h6 dX2_readsOf_15 ?_
  refine V.goto (pc := 16) (t := 20) C dX2_readsOf_16 (by decide) ?_
  obtain ⟨f1, f2⟩ := fin2 hf
  clear hf
  subst f1
  subst f2
  exact V.iret (pc := 20) C rfl dX2_readsOf_20
theorem dX2_opAt_0 : decode cX2_opAt 0 = .ok (.iload_n 1, 1) := by decide +kernel
theorem dX2_opAt_1 : decode cX2_opAt 1 = .ok (.bipush 6, 2) := by decide +kernel
theorem dX2_opAt_3 : decode cX2_opAt 3 = .ok (.imul, 1) := by decide +kernel
theorem dX2_opAt_4 : decode cX2_opAt 4 = .ok (.iload_n 2, 1) := by decide +kernel
theorem dX2_opAt_5 : decode cX2_opAt 5 = .ok (.iadd, 1) := by decide +kernel
theorem dX2_opAt_6 : decode cX2_opAt 6 = .ok (.istore_n 3, 1) := by decide +kernel
theorem dX2_opAt_7 : decode cX2_opAt 7 = .ok (.iload_n 3, 1) := by decide +kernel
theorem dX2_opAt_8 : decode cX2_opAt 8 = .ok (.ifCond .lt 21, 3) := by decide +kernel
theorem dX2_opAt_11 : decode cX2_opAt 11 = .ok (.iload_n 3, 1) := by decide +kernel
theorem dX2_opAt_12 : decode cX2_opAt 12 = .ok (.aload_n 0, 1) := by decide +kernel
theorem dX2_opAt_13 : decode cX2_opAt 13 = .ok (.getfield 37, 3) := by decide +kernel
theorem dX2_opAt_16 : decode cX2_opAt 16 = .ok (.arraylength, 1) := by decide +kernel
theorem dX2_opAt_17 : decode cX2_opAt 17 = .ok (.if_icmp .ge 12, 3) := by decide +kernel
theorem dX2_opAt_20 : decode cX2_opAt 20 = .ok (.aload_n 0, 1) := by decide +kernel
theorem dX2_opAt_21 : decode cX2_opAt 21 = .ok (.getfield 37, 3) := by decide +kernel
theorem dX2_opAt_24 : decode cX2_opAt 24 = .ok (.iload_n 3, 1) := by decide +kernel
theorem dX2_opAt_25 : decode cX2_opAt 25 = .ok (.iaload, 1) := by decide +kernel
theorem dX2_opAt_26 : decode cX2_opAt 26 = .ok (.goto 4, 3) := by decide +kernel
theorem dX2_opAt_29 : decode cX2_opAt 29 = .ok (.iconst 0, 1) := by decide +kernel
theorem dX2_opAt_30 : decode cX2_opAt 30 = .ok (.ireturn, 1) := by decide +kernel
def fX2_opAt (g : PH) (a0 : Nat) (a1 : Int32) (a2 : Int32) : Option (Int32 × PH) :=
  okb (isO g a0 2) (if ((a1 * (6 : Int32)) + a2) < 0 then (some ((0 : Int32), g)) else
  ((getR g a0 2 8).bind fun p2 =>
  ((alen g p2).bind fun x4 =>
  (if x4 ≤ ((a1 * (6 : Int32)) + a2) then (some ((0 : Int32), g)) else
  ((getR g a0 2 8).bind fun p7 =>
  ((ldI g p7 0 ((a1 * (6 : Int32)) + a2)).bind fun x9 =>
  (some (x9, g))))))))
theorem oX2_opAt {g : PH} {a0 : Nat} {a1 : Int32} {a2 : Int32} {q : (Int32 × PH)} (h : fX2_opAt g a0 a1 a2 = some q) : isO g a0 2 = true := by unfold fX2_opAt at h; exact (okb_some h).1
theorem hyX2_opAt : hMet yX2_opAt RX2 cX2_opAt 4 (some .int) 2 := ⟨wd_569, wd_567, wd_568, wd_14, rfl, by decide +kernel, by decide +kernel, by decide +kernel⟩
set_option maxHeartbeats 4000000 in
set_option maxRecDepth 100000 in
theorem mX2_opAt (l : Launch) (E : HE) (sz : Nat) {g g' : PH} {a0 : Nat} {a1 : Int32} {a2 : Int32} {r : Int32} (hf : fX2_opAt g a0 a1 a2 = some (r, g')) : hM l E yX2_opAt cX2_opAt 4 (some .int) 0 0 0 0 sz g [.ref a0, .int a1, .int a2] (some (.int r)) g' := by
  refine hM.of (by decide) (Nat.le_of_ble_eq_true rfl) (fun K hl C hin hsz => ?_)
  subst hl
  subst hsz
  have C : VC K E 4 cX2_opAt RX2 (some .int) := C
  unfold fX2_opAt at hf
  replace hf := okb_some hf
  obtain ⟨ho, hf⟩ := hf
  refine V.start (L' := [(0, .ref a0), (1, .int a1), (2, .int a2)]) rfl ?_
  refine V.iload_n (pc := 0) C dX2_opAt_0 1 rfl ?_
  refine V.bipush (pc := 1) C dX2_opAt_1 (v := (6 : Int32)) (by decide) ?_
  refine V.imul (pc := 3) C dX2_opAt_3 ?_
  refine V.iload_n (pc := 4) C dX2_opAt_4 2 rfl ?_
  refine V.iadd (pc := 5) C dX2_opAt_5 ?_
  refine V.istore_n (pc := 6) (L' := [(3, .int ((a1 * (6 : Int32)) + a2)), (0, .ref a0), (1, .int a1), (2, .int a2)]) C dX2_opAt_6 (by decide) rfl ?_
  refine V.iload_n (pc := 7) C dX2_opAt_7 0 rfl ?_
  refine V.if_lt (pc := 8) (t := 29) C dX2_opAt_8 (by decide) (fun c1 => ?_) (fun c1 => ?_)
  · replace hf := ite_t c1 hf
    refine V.iconst (pc := 29) C dX2_opAt_29 (v := (0 : Int32)) (by decide) ?_
    obtain ⟨f1, f2⟩ := fin2 hf
    clear hf
    subst f1
    subst f2
    exact V.iret (pc := 30) C rfl dX2_opAt_30
  replace hf := ite_f c1 hf
  refine V.iload_n (pc := 11) C dX2_opAt_11 0 rfl ?_
  refine V.aload_n (pc := 12) C dX2_opAt_12 1 rfl ?_
  replace hf := ob_some hf
  obtain ⟨p2, h3, hf⟩ := hf
  refine V.getR (pc := 13) C kX2 (k := 8) (by decide) wd_459 h3 dX2_opAt_13 ?_
  replace hf := ob_some hf
  obtain ⟨x4, h5, hf⟩ := hf
  refine V.alen (pc := 16) C h5 dX2_opAt_16 ?_
  refine V.icmp_ge (pc := 17) (t := 29) C dX2_opAt_17 (by decide) (fun c6 => ?_) (fun c6 => ?_)
  · replace hf := ite_t c6 hf
    refine V.iconst (pc := 29) C dX2_opAt_29 (v := (0 : Int32)) (by decide) ?_
    obtain ⟨f1, f2⟩ := fin2 hf
    clear hf
    subst f1
    subst f2
    exact V.iret (pc := 30) C rfl dX2_opAt_30
  replace hf := ite_f c6 hf
  refine V.aload_n (pc := 20) C dX2_opAt_20 1 rfl ?_
  replace hf := ob_some hf
  obtain ⟨p7, h8, hf⟩ := hf
  refine V.getR (pc := 21) C kX2 (k := 8) (by decide) wd_459 h8 dX2_opAt_21 ?_
  refine V.iload_n (pc := 24) C dX2_opAt_24 0 rfl ?_
  replace hf := ob_some hf
  obtain ⟨x9, h10, hf⟩ := hf
  refine V.iald (pc := 25) C h10 dX2_opAt_25 ?_
  refine V.goto (pc := 26) (t := 30) C dX2_opAt_26 (by decide) ?_
  obtain ⟨f1, f2⟩ := fin2 hf
  clear hf
  subst f1
  subst f2
  exact V.iret (pc := 30) C rfl dX2_opAt_30
theorem dX2_isDown_0 : decode cX2_isDown 0 = .ok (.aload_n 0, 1) := by decide +kernel
theorem dX2_isDown_1 : decode cX2_isDown 1 = .ok (.iload_n 1, 1) := by decide +kernel
theorem dX2_isDown_2 : decode cX2_isDown 2 = .ok (.invokevirtual 92, 3) := by decide +kernel
theorem dX2_isDown_5 : decode cX2_isDown 5 = .ok (.istore_n 3, 1) := by decide +kernel
theorem dX2_isDown_6 : decode cX2_isDown 6 = .ok (.iload_n 3, 1) := by decide +kernel
theorem dX2_isDown_7 : decode cX2_isDown 7 = .ok (.iconst 2, 1) := by decide +kernel
theorem dX2_isDown_8 : decode cX2_isDown 8 = .ok (.if_icmp .ge 16, 3) := by decide +kernel
theorem dX2_isDown_11 : decode cX2_isDown 11 = .ok (.iload_n 3, 1) := by decide +kernel
theorem dX2_isDown_12 : decode cX2_isDown 12 = .ok (.iconst 1, 1) := by decide +kernel
theorem dX2_isDown_13 : decode cX2_isDown 13 = .ok (.if_icmp .ne 7, 3) := by decide +kernel
theorem dX2_isDown_16 : decode cX2_isDown 16 = .ok (.iconst 1, 1) := by decide +kernel
theorem dX2_isDown_17 : decode cX2_isDown 17 = .ok (.goto 23, 3) := by decide +kernel
theorem dX2_isDown_20 : decode cX2_isDown 20 = .ok (.iconst 0, 1) := by decide +kernel
theorem dX2_isDown_21 : decode cX2_isDown 21 = .ok (.goto 19, 3) := by decide +kernel
theorem dX2_isDown_24 : decode cX2_isDown 24 = .ok (.iload_n 2, 1) := by decide +kernel
theorem dX2_isDown_25 : decode cX2_isDown 25 = .ok (.iload_n 3, 1) := by decide +kernel
theorem dX2_isDown_26 : decode cX2_isDown 26 = .ok (.iconst 2, 1) := by decide +kernel
theorem dX2_isDown_27 : decode cX2_isDown 27 = .ok (.isub, 1) := by decide +kernel
theorem dX2_isDown_28 : decode cX2_isDown 28 = .ok (.ishr, 1) := by decide +kernel
theorem dX2_isDown_29 : decode cX2_isDown 29 = .ok (.iconst 1, 1) := by decide +kernel
theorem dX2_isDown_30 : decode cX2_isDown 30 = .ok (.iand, 1) := by decide +kernel
theorem dX2_isDown_31 : decode cX2_isDown 31 = .ok (.iconst 1, 1) := by decide +kernel
theorem dX2_isDown_32 : decode cX2_isDown 32 = .ok (.if_icmp .ne 7, 3) := by decide +kernel
theorem dX2_isDown_35 : decode cX2_isDown 35 = .ok (.iconst 1, 1) := by decide +kernel
theorem dX2_isDown_36 : decode cX2_isDown 36 = .ok (.goto 4, 3) := by decide +kernel
theorem dX2_isDown_39 : decode cX2_isDown 39 = .ok (.iconst 0, 1) := by decide +kernel
theorem dX2_isDown_40 : decode cX2_isDown 40 = .ok (.ireturn, 1) := by decide +kernel
def fX2_isDown (g : PH) (a0 : Nat) (a1 : Int32) (a2 : Int32) : Option (Int32 × PH) :=
  okb (isO g a0 2) ((fX2_wayOf g a0 a1).bind fun q1 =>
  (if (2 : Int32) ≤ q1.1 then (if ((a2 >>> ((q1.1 - (2 : Int32)) &&& 31)) &&& (1 : Int32)) = (1 : Int32) then (some ((1 : Int32), q1.2)) else
  (some ((0 : Int32), q1.2))) else
  (if q1.1 = (1 : Int32) then (some ((1 : Int32), q1.2)) else
  (some ((0 : Int32), q1.2)))))
theorem oX2_isDown {g : PH} {a0 : Nat} {a1 : Int32} {a2 : Int32} {q : (Int32 × PH)} (h : fX2_isDown g a0 a1 a2 = some q) : isO g a0 2 = true := by unfold fX2_isDown at h; exact (okb_some h).1
theorem hyX2_isDown : hMet yX2_isDown RX2 cX2_isDown 4 (some .boolean) 2 := ⟨wd_602, wd_600, wd_601, wd_14, rfl, by decide +kernel, by decide +kernel, by decide +kernel⟩
set_option maxHeartbeats 4000000 in
set_option maxRecDepth 100000 in
theorem mX2_isDown (l : Launch) (E : HE) (sz : Nat) {g g' : PH} {a0 : Nat} {a1 : Int32} {a2 : Int32} {r : Int32} (hf : fX2_isDown g a0 a1 a2 = some (r, g')) : hM l E yX2_isDown cX2_isDown 4 (some .boolean) 1 21 0 0 sz g [.ref a0, .int a1, .int a2] (some (.int r)) g' := by
  refine hM.of (by decide) (Nat.le_of_ble_eq_true rfl) (fun K hl C hin hsz => ?_)
  subst hl
  subst hsz
  have C : VC K E 4 cX2_isDown RX2 (some .boolean) := C
  unfold fX2_isDown at hf
  replace hf := okb_some hf
  obtain ⟨ho, hf⟩ := hf
  refine V.start (L' := [(0, .ref a0), (1, .int a1), (2, .int a2)]) rfl ?_
  refine V.aload_n (pc := 0) C dX2_isDown_0 0 rfl ?_
  refine V.iload_n (pc := 1) C dX2_isDown_1 1 rfl ?_
  replace hf := ob_some hf
  obtain ⟨q1, h2, hf⟩ := hf
  refine V.callV0i (pc := 2) C hyX2_wayOf wd_603 (mX2_wayOf (r := q1.1) (g' := q1.2) K.2.1 E (kS K) h2) rfl rfl rfl (oX2_wayOf h2) ⟨Nat.le_of_ble_eq_true rfl, Nat.le_of_ble_eq_true rfl⟩ (Nat.le_of_ble_eq_true rfl) dX2_isDown_2 ⟨Nat.zero_le _, Nat.zero_le _⟩ rfl ?_
  refine V.istore_n (pc := 5) (L' := [(3, .int q1.1), (0, .ref a0), (1, .int a1), (2, .int a2)]) C dX2_isDown_5 (by decide) rfl ?_
  refine V.iload_n (pc := 6) C dX2_isDown_6 0 rfl ?_
  refine V.iconst (pc := 7) C dX2_isDown_7 (v := (2 : Int32)) (by decide) ?_
  refine V.icmp_ge (pc := 8) (t := 24) C dX2_isDown_8 (by decide) (fun c3 => ?_) (fun c3 => ?_)
  · replace hf := ite_t c3 hf
    refine V.iload_n (pc := 24) C dX2_isDown_24 3 rfl ?_
    refine V.iload_n (pc := 25) C dX2_isDown_25 0 rfl ?_
    refine V.iconst (pc := 26) C dX2_isDown_26 (v := (2 : Int32)) (by decide) ?_
    refine V.isub (pc := 27) C dX2_isDown_27 ?_
    refine V.ishr (pc := 28) C dX2_isDown_28 ?_
    refine V.iconst (pc := 29) C dX2_isDown_29 (v := (1 : Int32)) (by decide) ?_
    refine V.iand (pc := 30) C dX2_isDown_30 ?_
    refine V.iconst (pc := 31) C dX2_isDown_31 (v := (1 : Int32)) (by decide) ?_
    refine V.icmp_ne (pc := 32) (t := 39) C dX2_isDown_32 (by decide) (fun c4 => ?_) (fun c4 => ?_)
    · replace hf := ite_f c4 hf
      refine V.iconst (pc := 39) C dX2_isDown_39 (v := (0 : Int32)) (by decide) ?_
      obtain ⟨f1, f2⟩ := fin2 hf
      clear hf
      subst f1
      subst f2
      exact V.zret (pc := 40) C rfl rfl dX2_isDown_40
    replace hf := ite_t c4 hf
    refine V.iconst (pc := 35) C dX2_isDown_35 (v := (1 : Int32)) (by decide) ?_
    refine V.goto (pc := 36) (t := 40) C dX2_isDown_36 (by decide) ?_
    obtain ⟨f1, f2⟩ := fin2 hf
    clear hf
    subst f1
    subst f2
    exact V.zret (pc := 40) C rfl rfl dX2_isDown_40
  replace hf := ite_f c3 hf
  refine V.iload_n (pc := 11) C dX2_isDown_11 0 rfl ?_
  refine V.iconst (pc := 12) C dX2_isDown_12 (v := (1 : Int32)) (by decide) ?_
  refine V.icmp_ne (pc := 13) (t := 20) C dX2_isDown_13 (by decide) (fun c5 => ?_) (fun c5 => ?_)
  · replace hf := ite_f c5 hf
    refine V.iconst (pc := 20) C dX2_isDown_20 (v := (0 : Int32)) (by decide) ?_
    refine V.goto (pc := 21) (t := 40) C dX2_isDown_21 (by decide) ?_
    obtain ⟨f1, f2⟩ := fin2 hf
    clear hf
    subst f1
    subst f2
    exact V.zret (pc := 40) C rfl rfl dX2_isDown_40
  replace hf := ite_t c5 hf
  refine V.iconst (pc := 16) C dX2_isDown_16 (v := (1 : Int32)) (by decide) ?_
  refine V.goto (pc := 17) (t := 40) C dX2_isDown_17 (by decide) ?_
  obtain ⟨f1, f2⟩ := fin2 hf
  clear hf
  subst f1
  subst f2
  exact V.zret (pc := 40) C rfl rfl dX2_isDown_40
theorem dX2_choices_0 : decode cX2_choices 0 = .ok (.iconst 1, 1) := by decide +kernel
theorem dX2_choices_1 : decode cX2_choices 1 = .ok (.aload_n 0, 1) := by decide +kernel
theorem dX2_choices_2 : decode cX2_choices 2 = .ok (.getfield 21, 3) := by decide +kernel
theorem dX2_choices_5 : decode cX2_choices 5 = .ok (.ishl, 1) := by decide +kernel
theorem dX2_choices_6 : decode cX2_choices 6 = .ok (.ireturn, 1) := by decide +kernel
def fX2_choices (g : PH) (a0 : Nat) : Option (Int32 × PH) :=
  okb (isO g a0 2) ((getI g a0 2 3).bind fun x1 =>
  (some (((1 : Int32) <<< (x1 &&& 31)), g)))
theorem oX2_choices {g : PH} {a0 : Nat} {q : (Int32 × PH)} (h : fX2_choices g a0 = some q) : isO g a0 2 = true := by unfold fX2_choices at h; exact (okb_some h).1
theorem hyX2_choices : hMet yX2_choices RX2 cX2_choices 1 (some .int) 0 := ⟨wd_593, wd_591, wd_592, wd_14, rfl, by decide +kernel, by decide +kernel, by decide +kernel⟩
set_option maxHeartbeats 4000000 in
set_option maxRecDepth 100000 in
theorem mX2_choices (l : Launch) (E : HE) (sz : Nat) {g g' : PH} {a0 : Nat} {r : Int32} (hf : fX2_choices g a0 = some (r, g')) : hM l E yX2_choices cX2_choices 1 (some .int) 0 0 0 0 sz g [.ref a0] (some (.int r)) g' := by
  refine hM.of (by decide) (Nat.le_of_ble_eq_true rfl) (fun K hl C hin hsz => ?_)
  subst hl
  subst hsz
  have C : VC K E 1 cX2_choices RX2 (some .int) := C
  unfold fX2_choices at hf
  replace hf := okb_some hf
  obtain ⟨ho, hf⟩ := hf
  refine V.start (L' := [(0, .ref a0)]) rfl ?_
  refine V.iconst (pc := 0) C dX2_choices_0 (v := (1 : Int32)) (by decide) ?_
  refine V.aload_n (pc := 1) C dX2_choices_1 0 rfl ?_
  replace hf := ob_some hf
  obtain ⟨x1, h2, hf⟩ := hf
  refine V.getI (pc := 2) C kX2 (k := 3) (by decide) wd_452 h2 dX2_choices_2 ?_
  refine V.ishl (pc := 5) C dX2_choices_5 ?_
  obtain ⟨f1, f2⟩ := fin2 hf
  clear hf
  subst f1
  subst f2
  exact V.iret (pc := 6) C rfl dX2_choices_6
