theorem dX9_write_0 : decode cX9_write 0 = .ok (.aload_n 0, 1) := by decide +kernel
theorem dX9_write_1 : decode cX9_write 1 = .ok (.iload_n 1, 1) := by decide +kernel
theorem dX9_write_2 : decode cX9_write 2 = .ok (.invokevirtual 355, 3) := by decide +kernel
theorem dX9_write_5 : decode cX9_write 5 = .ok (.ifCond .eq 13, 3) := by decide +kernel
theorem dX9_write_8 : decode cX9_write 8 = .ok (.iload_n 2, 1) := by decide +kernel
theorem dX9_write_9 : decode cX9_write 9 = .ok (.i2l, 1) := by decide +kernel
theorem dX9_write_10 : decode cX9_write 10 = .ok (.lconst 0, 1) := by decide +kernel
theorem dX9_write_11 : decode cX9_write 11 = .ok (.lconst 1, 1) := by decide +kernel
theorem dX9_write_12 : decode cX9_write 12 = .ok (.invokestatic 86, 3) := by decide +kernel
theorem dX9_write_15 : decode cX9_write 15 = .ok (.ifCond .ne 5, 3) := by decide +kernel
theorem dX9_write_18 : decode cX9_write 18 = .ok (.iconst (-1), 1) := by decide +kernel
theorem dX9_write_19 : decode cX9_write 19 = .ok (.ireturn, 1) := by decide +kernel
theorem dX9_write_20 : decode cX9_write 20 = .ok (.aload_n 0, 1) := by decide +kernel
theorem dX9_write_21 : decode cX9_write 21 = .ok (.invokevirtual 358, 3) := by decide +kernel
theorem dX9_write_24 : decode cX9_write 24 = .ok (.aload_n 0, 1) := by decide +kernel
theorem dX9_write_25 : decode cX9_write 25 = .ok (.iload_n 1, 1) := by decide +kernel
theorem dX9_write_26 : decode cX9_write 26 = .ok (.iload_n 2, 1) := by decide +kernel
theorem dX9_write_27 : decode cX9_write 27 = .ok (.invokevirtual 231, 3) := by decide +kernel
theorem dX9_write_30 : decode cX9_write 30 = .ok (.aload_n 0, 1) := by decide +kernel
theorem dX9_write_31 : decode cX9_write 31 = .ok (.getfield 32, 3) := by decide +kernel
theorem dX9_write_34 : decode cX9_write 34 = .ok (.iconst 0, 1) := by decide +kernel
theorem dX9_write_35 : decode cX9_write 35 = .ok (.iaload, 1) := by decide +kernel
theorem dX9_write_36 : decode cX9_write 36 = .ok (.ireturn, 1) := by decide +kernel
def fX9_write (g : PH) (a0 : Nat) (a1 : Int32) (a2 : Int32) : Option (Int32 × PH) :=
  okb (isO g a0 9) ((fX9_isCell g a0 a1).bind fun q1 =>
  (if q1.1 = 0 then (some ((-1 : Int32), q1.2)) else
  ((fX9_isIn q1.2 a2.toInt64 (0 : Int64) (1 : Int64)).bind fun q4 =>
  (if q4.1 = 0 then (some ((-1 : Int32), q4.2)) else
  ((fX9_keepsAct q4.2 a0).bind fun q7 =>
  ((fX9_writesAt q7.2 a0 a1 a2).bind fun q9 =>
  ((getR q9.2 a0 9 16).bind fun p11 =>
  ((ldI q9.2 p11 0 (0 : Int32)).bind fun x13 =>
  (some (x13, q9.2))))))))))
theorem oX9_write {g : PH} {a0 : Nat} {a1 : Int32} {a2 : Int32} {q : (Int32 × PH)} (h : fX9_write g a0 a1 a2 = some q) : isO g a0 9 = true := by unfold fX9_write at h; exact (okb_some h).1
theorem hyX9_write : hMet yX9_write RX9 cX9_write 3 (some .int) 2 := ⟨wd_1516, wd_1514, wd_1515, wd_7, rfl, by decide +kernel, by decide +kernel, by decide +kernel⟩
set_option maxHeartbeats 4000000 in
set_option maxRecDepth 100000 in
theorem mX9_write (l : Launch) (E : HE) (sz : Nat) {g g' : PH} {a0 : Nat} {a1 : Int32} {a2 : Int32} {r : Int32} (hf : fX9_write g a0 a1 a2 = some (r, g')) : hM l E yX9_write cX9_write 3 (some .int) 5 120 0 0 sz g [.ref a0, .int a1, .int a2] (some (.int r)) g' := by
  refine hM.of (by decide) (Nat.le_of_ble_eq_true rfl) (fun K hl C hin hsz => ?_)
  subst hl
  subst hsz
  have C : VC K E 3 cX9_write RX9 (some .int) := C
  unfold fX9_write at hf
  replace hf := okb_some hf
  obtain ⟨ho, hf⟩ := hf
  refine V.start (L' := [(0, .ref a0), (1, .int a1), (2, .int a2)]) rfl ?_
  refine V.aload_n (pc := 0) C dX9_write_0 0 rfl ?_
  refine V.iload_n (pc := 1) C dX9_write_1 1 rfl ?_
  replace hf := ob_some hf
  obtain ⟨q1, h2, hf⟩ := hf
  refine V.callV0i (pc := 2) C hyX9_isCell wd_1497 (mX9_isCell (r := q1.1) (g' := q1.2) K.2.1 E (kS K) h2) rfl rfl rfl (oX9_isCell h2) ⟨Nat.le_of_ble_eq_true rfl, Nat.le_of_ble_eq_true rfl⟩ (Nat.le_of_ble_eq_true rfl) dX9_write_2 ⟨Nat.zero_le _, Nat.zero_le _⟩ rfl ?_
  refine V.if_eq (pc := 5) (t := 18) C dX9_write_5 (by decide) (fun c3 => ?_) (fun c3 => ?_)
  · replace hf := ite_t c3 hf
    refine V.iconst (pc := 18) C dX9_write_18 (v := (-1 : Int32)) (by decide) ?_
    obtain ⟨f1, f2⟩ := fin2 hf
    clear hf
    subst f1
    subst f2
    exact V.iret (pc := 19) C rfl dX9_write_19
  replace hf := ite_f c3 hf
  refine V.iload_n (pc := 8) C dX9_write_8 2 rfl ?_
  refine V.i2l (pc := 9) C dX9_write_9 ?_
  refine V.lconst (pc := 10) C dX9_write_10 (v := (0 : Int64)) (by decide) ?_
  refine V.lconst (pc := 11) C dX9_write_11 (v := (1 : Int64)) (by decide) ?_
  replace hf := ob_some hf
  obtain ⟨q4, h5, hf⟩ := hf
  refine V.callS0i (pc := 12) C hyX9_isIn wd_1182 (mX9_isIn (r := q4.1) (g' := q4.2) K.2.1 E (kS K) h5) rfl ⟨Nat.le_of_ble_eq_true rfl, Nat.le_of_ble_eq_true rfl⟩ (Nat.le_of_ble_eq_true rfl) dX9_write_12 ⟨Nat.zero_le _, Nat.zero_le _⟩ rfl ?_
  refine V.if_ne (pc := 15) (t := 20) C dX9_write_15 (by decide) (fun c6 => ?_) (fun c6 => ?_)
  · replace hf := ite_f c6 hf
    refine V.aload_n (pc := 20) C dX9_write_20 0 rfl ?_
    replace hf := ob_some hf
    obtain ⟨q7, h8, hf⟩ := hf
    refine V.callV0v (pc := 21) C hyX9_keepsAct wd_1501 (mX9_keepsAct (r := q7.1) (g' := q7.2) K.2.1 E (kS K) h8) rfl rfl rfl (oX9_keepsAct h8) ⟨Nat.le_of_ble_eq_true rfl, Nat.le_of_ble_eq_true rfl⟩ (Nat.le_of_ble_eq_true rfl) dX9_write_21 ⟨Nat.zero_le _, Nat.zero_le _⟩ rfl ?_
    refine V.aload_n (pc := 24) C dX9_write_24 0 rfl ?_
    refine V.iload_n (pc := 25) C dX9_write_25 1 rfl ?_
    refine V.iload_n (pc := 26) C dX9_write_26 2 rfl ?_
    replace hf := ob_some hf
    obtain ⟨q9, h10, hf⟩ := hf
    refine V.callV0v (pc := 27) C hyX9_writesAt wd_1380 (mX9_writesAt (r := q9.1) (g' := q9.2) K.2.1 E (kS K) h10) rfl rfl rfl (oX9_writesAt h10) ⟨Nat.le_of_ble_eq_true rfl, Nat.le_of_ble_eq_true rfl⟩ (Nat.le_of_ble_eq_true rfl) dX9_write_27 ⟨Nat.zero_le _, Nat.zero_le _⟩ rfl ?_
    refine V.aload_n (pc := 30) C dX9_write_30 0 rfl ?_
    replace hf := ob_some hf
    obtain ⟨p11, h12, hf⟩ := hf
    refine V.getR (pc := 31) C kX9 (k := 16) (by decide) wd_1066 h12 dX9_write_31 ?_
    refine V.iconst (pc := 34) C dX9_write_34 (v := (0 : Int32)) (by decide) ?_
    replace hf := ob_some hf
    obtain ⟨x13, h14, hf⟩ := hf
    refine V.iald (pc := 35) C h14 dX9_write_35 ?_
    obtain ⟨f1, f2⟩ := fin2 hf
    clear hf
    subst f1
    subst f2
    exact V.iret (pc := 36) C rfl dX9_write_36
  replace hf := ite_t c6 hf
  refine V.iconst (pc := 18) C dX9_write_18 (v := (-1 : Int32)) (by decide) ?_
  obtain ⟨f1, f2⟩ := fin2 hf
  clear hf
  subst f1
  subst f2
  exact V.iret (pc := 19) C rfl dX9_write_19
theorem dX9_read_0 : decode cX9_read 0 = .ok (.aload_n 0, 1) := by decide +kernel
theorem dX9_read_1 : decode cX9_read 1 = .ok (.iload_n 1, 1) := by decide +kernel
theorem dX9_read_2 : decode cX9_read 2 = .ok (.invokevirtual 355, 3) := by decide +kernel
theorem dX9_read_5 : decode cX9_read 5 = .ok (.ifCond .ne 5, 3) := by decide +kernel
theorem dX9_read_8 : decode cX9_read 8 = .ok (.iconst (-1), 1) := by decide +kernel
theorem dX9_read_9 : decode cX9_read 9 = .ok (.ireturn, 1) := by decide +kernel
theorem dX9_read_10 : decode cX9_read 10 = .ok (.aload_n 0, 1) := by decide +kernel
theorem dX9_read_11 : decode cX9_read 11 = .ok (.invokevirtual 358, 3) := by decide +kernel
theorem dX9_read_14 : decode cX9_read 14 = .ok (.aload_n 0, 1) := by decide +kernel
theorem dX9_read_15 : decode cX9_read 15 = .ok (.iload_n 1, 1) := by decide +kernel
theorem dX9_read_16 : decode cX9_read 16 = .ok (.invokevirtual 219, 3) := by decide +kernel
theorem dX9_read_19 : decode cX9_read 19 = .ok (.ireturn, 1) := by decide +kernel
def fX9_read (g : PH) (a0 : Nat) (a1 : Int32) : Option (Int32 × PH) :=
  okb (isO g a0 9) ((fX9_isCell g a0 a1).bind fun q1 =>
  (if q1.1 = 0 then (some ((-1 : Int32), q1.2)) else
  ((fX9_keepsAct q1.2 a0).bind fun q4 =>
  ((fX9_readsAt q4.2 a0 a1).bind fun q6 =>
  (some (q6.1, q6.2))))))
theorem oX9_read {g : PH} {a0 : Nat} {a1 : Int32} {q : (Int32 × PH)} (h : fX9_read g a0 a1 = some q) : isO g a0 9 = true := by unfold fX9_read at h; exact (okb_some h).1
theorem hyX9_read : hMet yX9_read RX9 cX9_read 2 (some .int) 1 := ⟨wd_1520, wd_1518, wd_1519, wd_7, rfl, by decide +kernel, by decide +kernel, by decide +kernel⟩
set_option maxHeartbeats 4000000 in
set_option maxRecDepth 100000 in
theorem mX9_read (l : Launch) (E : HE) (sz : Nat) {g g' : PH} {a0 : Nat} {a1 : Int32} {r : Int32} (hf : fX9_read g a0 a1 = some (r, g')) : hM l E yX9_read cX9_read 2 (some .int) 5 121 0 0 sz g [.ref a0, .int a1] (some (.int r)) g' := by
  refine hM.of (by decide) (Nat.le_of_ble_eq_true rfl) (fun K hl C hin hsz => ?_)
  subst hl
  subst hsz
  have C : VC K E 2 cX9_read RX9 (some .int) := C
  unfold fX9_read at hf
  replace hf := okb_some hf
  obtain ⟨ho, hf⟩ := hf
  refine V.start (L' := [(0, .ref a0), (1, .int a1)]) rfl ?_
  refine V.aload_n (pc := 0) C dX9_read_0 0 rfl ?_
  refine V.iload_n (pc := 1) C dX9_read_1 1 rfl ?_
  replace hf := ob_some hf
  obtain ⟨q1, h2, hf⟩ := hf
  refine V.callV0i (pc := 2) C hyX9_isCell wd_1497 (mX9_isCell (r := q1.1) (g' := q1.2) K.2.1 E (kS K) h2) rfl rfl rfl (oX9_isCell h2) ⟨Nat.le_of_ble_eq_true rfl, Nat.le_of_ble_eq_true rfl⟩ (Nat.le_of_ble_eq_true rfl) dX9_read_2 ⟨Nat.zero_le _, Nat.zero_le _⟩ rfl ?_
  refine V.if_ne (pc := 5) (t := 10) C dX9_read_5 (by decide) (fun c3 => ?_) (fun c3 => ?_)
  · replace hf := ite_f c3 hf
    refine V.aload_n (pc := 10) C dX9_read_10 0 rfl ?_
    replace hf := ob_some hf
    obtain ⟨q4, h5, hf⟩ := hf
    refine V.callV0v (pc := 11) C hyX9_keepsAct wd_1501 (mX9_keepsAct (r := q4.1) (g' := q4.2) K.2.1 E (kS K) h5) rfl rfl rfl (oX9_keepsAct h5) ⟨Nat.le_of_ble_eq_true rfl, Nat.le_of_ble_eq_true rfl⟩ (Nat.le_of_ble_eq_true rfl) dX9_read_11 ⟨Nat.zero_le _, Nat.zero_le _⟩ rfl ?_
    refine V.aload_n (pc := 14) C dX9_read_14 0 rfl ?_
    refine V.iload_n (pc := 15) C dX9_read_15 1 rfl ?_
    replace hf := ob_some hf
    obtain ⟨q6, h7, hf⟩ := hf
    refine V.callV0i (pc := 16) C hyX9_readsAt wd_1364 (mX9_readsAt (r := q6.1) (g' := q6.2) K.2.1 E (kS K) h7) rfl rfl rfl (oX9_readsAt h7) ⟨Nat.le_of_ble_eq_true rfl, Nat.le_of_ble_eq_true rfl⟩ (Nat.le_of_ble_eq_true rfl) dX9_read_16 ⟨Nat.zero_le _, Nat.zero_le _⟩ rfl ?_
    obtain ⟨f1, f2⟩ := fin2 hf
    clear hf
    subst f1
    subst f2
    exact V.iret (pc := 19) C rfl dX9_read_19
  replace hf := ite_t c3 hf
  refine V.iconst (pc := 8) C dX9_read_8 (v := (-1 : Int32)) (by decide) ?_
  obtain ⟨f1, f2⟩ := fin2 hf
  clear hf
  subst f1
  subst f2
  exact V.iret (pc := 9) C rfl dX9_read_9
theorem dX9_run_0 : decode cX9_run 0 = .ok (.aload_n 0, 1) := by decide +kernel
theorem dX9_run_1 : decode cX9_run 1 = .ok (.iload_n 1, 1) := by decide +kernel
theorem dX9_run_2 : decode cX9_run 2 = .ok (.invokevirtual 263, 3) := by decide +kernel
theorem dX9_run_5 : decode cX9_run 5 = .ok (.ifCond .eq 15, 3) := by decide +kernel
theorem dX9_run_8 : decode cX9_run 8 = .ok (.iload_n 2, 1) := by decide +kernel
theorem dX9_run_9 : decode cX9_run 9 = .ok (.i2l, 1) := by decide +kernel
theorem dX9_run_10 : decode cX9_run 10 = .ok (.lconst 0, 1) := by decide +kernel
theorem dX9_run_11 : decode cX9_run 11 = .ok (.ldc2_w 268, 3) := by decide +kernel
theorem dX9_run_14 : decode cX9_run 14 = .ok (.invokestatic 86, 3) := by decide +kernel
theorem dX9_run_17 : decode cX9_run 17 = .ok (.ifCond .ne 5, 3) := by decide +kernel
theorem dX9_run_20 : decode cX9_run 20 = .ok (.iconst (-1), 1) := by decide +kernel
theorem dX9_run_21 : decode cX9_run 21 = .ok (.ireturn, 1) := by decide +kernel
theorem dX9_run_22 : decode cX9_run 22 = .ok (.aload_n 0, 1) := by decide +kernel
theorem dX9_run_23 : decode cX9_run 23 = .ok (.invokevirtual 358, 3) := by decide +kernel
theorem dX9_run_26 : decode cX9_run 26 = .ok (.aload_n 0, 1) := by decide +kernel
theorem dX9_run_27 : decode cX9_run 27 = .ok (.iload_n 1, 1) := by decide +kernel
theorem dX9_run_28 : decode cX9_run 28 = .ok (.iload_n 2, 1) := by decide +kernel
theorem dX9_run_29 : decode cX9_run 29 = .ok (.invokevirtual 252, 3) := by decide +kernel
theorem dX9_run_32 : decode cX9_run 32 = .ok (.aload_n 0, 1) := by decide +kernel
theorem dX9_run_33 : decode cX9_run 33 = .ok (.getfield 32, 3) := by decide +kernel
theorem dX9_run_36 : decode cX9_run 36 = .ok (.bipush 10, 2) := by decide +kernel
theorem dX9_run_38 : decode cX9_run 38 = .ok (.iload_n 1, 1) := by decide +kernel
theorem dX9_run_39 : decode cX9_run 39 = .ok (.iastore, 1) := by decide +kernel
theorem dX9_run_40 : decode cX9_run 40 = .ok (.aload_n 0, 1) := by decide +kernel
theorem dX9_run_41 : decode cX9_run 41 = .ok (.getfield 32, 3) := by decide +kernel
theorem dX9_run_44 : decode cX9_run 44 = .ok (.bipush 11, 2) := by decide +kernel
theorem dX9_run_46 : decode cX9_run 46 = .ok (.iload_n 2, 1) := by decide +kernel
theorem dX9_run_47 : decode cX9_run 47 = .ok (.iastore, 1) := by decide +kernel
theorem dX9_run_48 : decode cX9_run 48 = .ok (.aload_n 0, 1) := by decide +kernel
theorem dX9_run_49 : decode cX9_run 49 = .ok (.getfield 32, 3) := by decide +kernel
theorem dX9_run_52 : decode cX9_run 52 = .ok (.bipush 12, 2) := by decide +kernel
theorem dX9_run_54 : decode cX9_run 54 = .ok (.aload_n 0, 1) := by decide +kernel
theorem dX9_run_55 : decode cX9_run 55 = .ok (.getfield 222, 3) := by decide +kernel
theorem dX9_run_58 : decode cX9_run 58 = .ok (.iastore, 1) := by decide +kernel
theorem dX9_run_59 : decode cX9_run 59 = .ok (.iconst 0, 1) := by decide +kernel
theorem dX9_run_60 : decode cX9_run 60 = .ok (.istore_n 3, 1) := by decide +kernel
theorem dX9_run_61 : decode cX9_run 61 = .ok (.iload_n 3, 1) := by decide +kernel
theorem dX9_run_62 : decode cX9_run 62 = .ok (.bipush 120, 2) := by decide +kernel
theorem dX9_run_64 : decode cX9_run 64 = .ok (.if_icmp .ge 38, 3) := by decide +kernel
theorem dX9_run_67 : decode cX9_run 67 = .ok (.aload_n 0, 1) := by decide +kernel
theorem dX9_run_68 : decode cX9_run 68 = .ok (.getfield 32, 3) := by decide +kernel
theorem dX9_run_71 : decode cX9_run 71 = .ok (.bipush 13, 2) := by decide +kernel
theorem dX9_run_73 : decode cX9_run 73 = .ok (.iload_n 3, 1) := by decide +kernel
theorem dX9_run_74 : decode cX9_run 74 = .ok (.iadd, 1) := by decide +kernel
theorem dX9_run_75 : decode cX9_run 75 = .ok (.iload_n 3, 1) := by decide +kernel
theorem dX9_run_76 : decode cX9_run 76 = .ok (.iconst 2, 1) := by decide +kernel
theorem dX9_run_77 : decode cX9_run 77 = .ok (.aload_n 0, 1) := by decide +kernel
theorem dX9_run_78 : decode cX9_run 78 = .ok (.getfield 222, 3) := by decide +kernel
theorem dX9_run_81 : decode cX9_run 81 = .ok (.imul, 1) := by decide +kernel
theorem dX9_run_82 : decode cX9_run 82 = .ok (.if_icmp .ge 12, 3) := by decide +kernel
theorem dX9_run_85 : decode cX9_run 85 = .ok (.aload_n 0, 1) := by decide +kernel
theorem dX9_run_86 : decode cX9_run 86 = .ok (.getfield 41, 3) := by decide +kernel
theorem dX9_run_89 : decode cX9_run 89 = .ok (.iload_n 3, 1) := by decide +kernel
theorem dX9_run_90 : decode cX9_run 90 = .ok (.iaload, 1) := by decide +kernel
theorem dX9_run_91 : decode cX9_run 91 = .ok (.goto 4, 3) := by decide +kernel
theorem dX9_run_94 : decode cX9_run 94 = .ok (.iconst 0, 1) := by decide +kernel
theorem dX9_run_95 : decode cX9_run 95 = .ok (.iastore, 1) := by decide +kernel
theorem dX9_run_96 : decode cX9_run 96 = .ok (.iinc 3 1, 3) := by decide +kernel
theorem dX9_run_99 : decode cX9_run 99 = .ok (.goto (-38), 3) := by decide +kernel
theorem dX9_run_102 : decode cX9_run 102 = .ok (.aload_n 0, 1) := by decide +kernel
theorem dX9_run_103 : decode cX9_run 103 = .ok (.getfield 222, 3) := by decide +kernel
theorem dX9_run_106 : decode cX9_run 106 = .ok (.ireturn, 1) := by decide +kernel
def fX9_run_95 (k61 : PH → Nat → Int32 → Option (Int32 × PH)) (g : PH) (v0 : Nat) (v3 : Int32) (s0 : Int32) (s1 : Int32) (s2 : Nat) : Option (Int32 × PH) :=
  (stI g s2 0 s1 s0).bind fun g1 =>
  (k61 g1 v0 (v3 + (1 : Int32)))
set_option maxHeartbeats 4000000 in
set_option maxRecDepth 100000 in
theorem bX9_run_95 {K : HK} {E : HE} {r : Int32} {g' : PH} {k61 : PH → Nat → Int32 → Option (Int32 × PH)} (C : VC K E 4 cX9_run RX9 (some .int)) (hk61 : ∀ (g : PH) (v0 : Nat) (v3 : Int32), k61 g v0 v3 = some (r, g') → V K E (hRm 8 192 0 0) 4 (hZ K E (some (.int r)) g' 0 0) 0 0 (kS K) g 61 [(0, .ref v0), (3, .int v3)] []) {g : PH} {v0 : Nat} {v3 : Int32} {s0 : Int32} {s1 : Int32} {s2 : Nat} (hf : fX9_run_95 k61 g v0 v3 s0 s1 s2 = some (r, g')) : V K E (hRm 8 192 0 0) 4 (hZ K E (some (.int r)) g' 0 0) 0 0 (kS K) g 95 [(0, .ref v0), (3, .int v3)] [.int s0, .int s1, .ref s2] := by
  unfold fX9_run_95 at hf
  replace hf := ob_some hf
  obtain ⟨g1, h2, hf⟩ := hf
  refine V.iast (pc := 95) C h2 dX9_run_95 ?_
  refine V.iinc (pc := 96) (v := (v3 + (1 : Int32))) (L' := [(3, .int (v3 + (1 : Int32))), (0, .ref v0)]) C dX9_run_96 1 rfl rfl (by decide) rfl ?_
  refine V.goto (pc := 99) (t := 61) C dX9_run_99 (by decide) ?_
  refine V.sub (L' := [(0, .ref v0), (3, .int (v3 + (1 : Int32)))]) [1, 0] rfl ?_
  exact hk61 _ _ _ hf
def fX9_run_61  : Nat → PH → Nat → Int32 → Option (Int32 × PH)
  | 0, _, _, _ => none
  | n + 1, g, v0, v3 =>
  if (120 : Int32) ≤ v3 then ((getI g v0 9 20).bind fun x2 =>
  (some (x2, g))) else
  ((getR g v0 9 16).bind fun p4 =>
  ((getI g v0 9 20).bind fun x6 =>
  (if ((2 : Int32) * x6) ≤ v3 then (fX9_run_95 (fX9_run_61 n) g v0 v3 (0 : Int32) ((13 : Int32) + v3) p4) else
  ((getR g v0 9 21).bind fun p9 =>
  ((ldI g p9 0 v3).bind fun x11 =>
  (fX9_run_95 (fX9_run_61 n) g v0 v3 x11 ((13 : Int32) + v3) p4))))))
set_option maxHeartbeats 4000000 in
set_option maxRecDepth 100000 in
theorem bX9_run_61 {K : HK} {E : HE} {r : Int32} {g' : PH}  (C : VC K E 4 cX9_run RX9 (some .int))  : ∀ (n : Nat) (g : PH) (v0 : Nat) (v3 : Int32), fX9_run_61  n g v0 v3 = some (r, g') → V K E (hRm 8 192 0 0) 4 (hZ K E (some (.int r)) g' 0 0) 0 0 (kS K) g 61 [(0, .ref v0), (3, .int v3)] [] := by
  intro n
  induction n with
  | zero =>
    intro g v0 v3 hf
    rw [fX9_run_61] at hf
    cases hf
  | succ n ih =>
    intro g v0 v3 hf
    rw [fX9_run_61] at hf
    refine V.iload_n (pc := 61) C dX9_run_61 1 rfl ?_
    refine V.bipush (pc := 62) C dX9_run_62 (v := (120 : Int32)) (by decide) ?_
    refine V.icmp_ge (pc := 64) (t := 102) C dX9_run_64 (by decide) (fun c1 => ?_) (fun c1 => ?_)
    · replace hf := ite_t c1 hf
      refine V.aload_n (pc := 102) C dX9_run_102 0 rfl ?_
      replace hf := ob_some hf
      obtain ⟨x2, h3, hf⟩ := hf
      refine V.getI (pc := 103) C kX9 (k := 20) (by decide) wd_1070 h3 dX9_run_103 ?_
      obtain ⟨f1, f2⟩ := fin2 hf
      clear hf
      subst f1
      subst f2
      exact V.iret (pc := 106) C rfl dX9_run_106
    replace hf := ite_f c1 hf
    refine V.aload_n (pc := 67) C dX9_run_67 0 rfl ?_
    replace hf := ob_some hf
    obtain ⟨p4, h5, hf⟩ := hf
    refine V.getR (pc := 68) C kX9 (k := 16) (by decide) wd_1066 h5 dX9_run_68 ?_
    refine V.bipush (pc := 71) C dX9_run_71 (v := (13 : Int32)) (by decide) ?_
    refine V.iload_n (pc := 73) C dX9_run_73 1 rfl ?_
    refine V.iadd (pc := 74) C dX9_run_74 ?_
    refine V.iload_n (pc := 75) C dX9_run_75 1 rfl ?_
    refine V.iconst (pc := 76) C dX9_run_76 (v := (2 : Int32)) (by decide) ?_
    refine V.aload_n (pc := 77) C dX9_run_77 0 rfl ?_
    replace hf := ob_some hf
    obtain ⟨x6, h7, hf⟩ := hf
    refine V.getI (pc := 78) C kX9 (k := 20) (by decide) wd_1070 h7 dX9_run_78 ?_
    refine V.imul (pc := 81) C dX9_run_81 ?_
    refine V.icmp_ge (pc := 82) (t := 94) C dX9_run_82 (by decide) (fun c8 => ?_) (fun c8 => ?_)
    · replace hf := ite_t c8 hf
      refine V.iconst (pc := 94) C dX9_run_94 (v := (0 : Int32)) (by decide) ?_
      refine V.sub (L' := [(0, .ref v0), (3, .int v3)]) [0, 1] rfl ?_
      exact bX9_run_95 C ih hf
    replace hf := ite_f c8 hf
    refine V.aload_n (pc := 85) C dX9_run_85 0 rfl ?_
    replace hf := ob_some hf
    obtain ⟨p9, h10, hf⟩ := hf
    refine V.getR (pc := 86) C kX9 (k := 21) (by decide) wd_1071 h10 dX9_run_86 ?_
    refine V.iload_n (pc := 89) C dX9_run_89 1 rfl ?_
    replace hf := ob_some hf
    obtain ⟨x11, h12, hf⟩ := hf
    refine V.iald (pc := 90) C h12 dX9_run_90 ?_
    refine V.goto (pc := 91) (t := 95) C dX9_run_91 (by decide) ?_
    refine V.sub (L' := [(0, .ref v0), (3, .int v3)]) [0, 1] rfl ?_
    exact bX9_run_95 C ih hf
def fX9_run (g : PH) (a0 : Nat) (a1 : Int32) (a2 : Int32) : Option (Int32 × PH) :=
  okb (isO g a0 9) ((fX9_isMarch g a0 a1).bind fun q1 =>
  (if q1.1 = 0 then (some ((-1 : Int32), q1.2)) else
  ((fX9_isIn q1.2 a2.toInt64 (0 : Int64) (7 : Int64)).bind fun q4 =>
  (if q4.1 = 0 then (some ((-1 : Int32), q4.2)) else
  ((fX9_keepsAct q4.2 a0).bind fun q7 =>
  ((fX9_goesThrough q7.2 a0 a1 a2).bind fun q9 =>
  ((getR q9.2 a0 9 16).bind fun p11 =>
  ((stI q9.2 p11 0 (10 : Int32) a1).bind fun g13 =>
  ((getR g13 a0 9 16).bind fun p15 =>
  ((stI g13 p15 0 (11 : Int32) a2).bind fun g17 =>
  ((getR g17 a0 9 16).bind fun p19 =>
  ((getI g17 a0 9 20).bind fun x21 =>
  ((stI g17 p19 0 (12 : Int32) x21).bind fun g23 =>
  (fX9_run_61 FUEL g23 a0 (0 : Int32)))))))))))))))
theorem oX9_run {g : PH} {a0 : Nat} {a1 : Int32} {a2 : Int32} {q : (Int32 × PH)} (h : fX9_run g a0 a1 a2 = some q) : isO g a0 9 = true := by unfold fX9_run at h; exact (okb_some h).1
theorem hyX9_run : hMet yX9_run RX9 cX9_run 4 (some .int) 2 := ⟨wd_1524, wd_1522, wd_1523, wd_7, rfl, by decide +kernel, by decide +kernel, by decide +kernel⟩
set_option maxHeartbeats 4000000 in
set_option maxRecDepth 100000 in
theorem mX9_run (l : Launch) (E : HE) (sz : Nat) {g g' : PH} {a0 : Nat} {a1 : Int32} {a2 : Int32} {r : Int32} (hf : fX9_run g a0 a1 a2 = some (r, g')) : hM l E yX9_run cX9_run 4 (some .int) 8 192 0 0 sz g [.ref a0, .int a1, .int a2] (some (.int r)) g' := by
  refine hM.of (by decide) (Nat.le_of_ble_eq_true rfl) (fun K hl C hin hsz => ?_)
  subst hl
  subst hsz
  have C : VC K E 4 cX9_run RX9 (some .int) := C
  unfold fX9_run at hf
  replace hf := okb_some hf
  obtain ⟨ho, hf⟩ := hf
  refine V.start (L' := [(0, .ref a0), (1, .int a1), (2, .int a2)]) rfl ?_
  refine V.aload_n (pc := 0) C dX9_run_0 0 rfl ?_
  refine V.iload_n (pc := 1) C dX9_run_1 1 rfl ?_
  replace hf := ob_some hf
  obtain ⟨q1, h2, hf⟩ := hf
  refine V.callV0i (pc := 2) C hyX9_isMarch wd_1287 (mX9_isMarch (r := q1.1) (g' := q1.2) K.2.1 E (kS K) h2) rfl rfl rfl (oX9_isMarch h2) ⟨Nat.le_of_ble_eq_true rfl, Nat.le_of_ble_eq_true rfl⟩ (Nat.le_of_ble_eq_true rfl) dX9_run_2 ⟨Nat.zero_le _, Nat.zero_le _⟩ rfl ?_
  refine V.if_eq (pc := 5) (t := 20) C dX9_run_5 (by decide) (fun c3 => ?_) (fun c3 => ?_)
  · replace hf := ite_t c3 hf
    refine V.iconst (pc := 20) C dX9_run_20 (v := (-1 : Int32)) (by decide) ?_
    obtain ⟨f1, f2⟩ := fin2 hf
    clear hf
    subst f1
    subst f2
    exact V.iret (pc := 21) C rfl dX9_run_21
  replace hf := ite_f c3 hf
  refine V.iload_n (pc := 8) C dX9_run_8 2 rfl ?_
  refine V.i2l (pc := 9) C dX9_run_9 ?_
  refine V.lconst (pc := 10) C dX9_run_10 (v := (0 : Int64)) (by decide) ?_
  refine V.ldc2 (pc := 11) C wd_1304 dX9_run_11 ?_
  replace hf := ob_some hf
  obtain ⟨q4, h5, hf⟩ := hf
  refine V.callS0i (pc := 14) C hyX9_isIn wd_1182 (mX9_isIn (r := q4.1) (g' := q4.2) K.2.1 E (kS K) h5) rfl ⟨Nat.le_of_ble_eq_true rfl, Nat.le_of_ble_eq_true rfl⟩ (Nat.le_of_ble_eq_true rfl) dX9_run_14 ⟨Nat.zero_le _, Nat.zero_le _⟩ rfl ?_
  refine V.if_ne (pc := 17) (t := 22) C dX9_run_17 (by decide) (fun c6 => ?_) (fun c6 => ?_)
  · replace hf := ite_f c6 hf
    refine V.aload_n (pc := 22) C dX9_run_22 0 rfl ?_
    replace hf := ob_some hf
    obtain ⟨q7, h8, hf⟩ := hf
    refine V.callV0v (pc := 23) C hyX9_keepsAct wd_1501 (mX9_keepsAct (r := q7.1) (g' := q7.2) K.2.1 E (kS K) h8) rfl rfl rfl (oX9_keepsAct h8) ⟨Nat.le_of_ble_eq_true rfl, Nat.le_of_ble_eq_true rfl⟩ (Nat.le_of_ble_eq_true rfl) dX9_run_23 ⟨Nat.zero_le _, Nat.zero_le _⟩ rfl ?_
    refine V.aload_n (pc := 26) C dX9_run_26 0 rfl ?_
    refine V.iload_n (pc := 27) C dX9_run_27 1 rfl ?_
    refine V.iload_n (pc := 28) C dX9_run_28 2 rfl ?_
    replace hf := ob_some hf
    obtain ⟨q9, h10, hf⟩ := hf
    refine V.callV0v (pc := 29) C hyX9_goesThrough wd_1352 (mX9_goesThrough (r := q9.1) (g' := q9.2) K.2.1 E (kS K) h10) rfl rfl rfl (oX9_goesThrough h10) ⟨Nat.le_of_ble_eq_true rfl, Nat.le_of_ble_eq_true rfl⟩ (Nat.le_of_ble_eq_true rfl) dX9_run_29 ⟨Nat.zero_le _, Nat.zero_le _⟩ rfl ?_
    refine V.aload_n (pc := 32) C dX9_run_32 0 rfl ?_
    replace hf := ob_some hf
    obtain ⟨p11, h12, hf⟩ := hf
    refine V.getR (pc := 33) C kX9 (k := 16) (by decide) wd_1066 h12 dX9_run_33 ?_
    refine V.bipush (pc := 36) C dX9_run_36 (v := (10 : Int32)) (by decide) ?_
    refine V.iload_n (pc := 38) C dX9_run_38 1 rfl ?_
    replace hf := ob_some hf
    obtain ⟨g13, h14, hf⟩ := hf
    refine V.iast (pc := 39) C h14 dX9_run_39 ?_
    refine V.aload_n (pc := 40) C dX9_run_40 0 rfl ?_
    replace hf := ob_some hf
    obtain ⟨p15, h16, hf⟩ := hf
    refine V.getR (pc := 41) C kX9 (k := 16) (by decide) wd_1066 h16 dX9_run_41 ?_
    refine V.bipush (pc := 44) C dX9_run_44 (v := (11 : Int32)) (by decide) ?_
    refine V.iload_n (pc := 46) C dX9_run_46 2 rfl ?_
    replace hf := ob_some hf
    obtain ⟨g17, h18, hf⟩ := hf
    refine V.iast (pc := 47) C h18 dX9_run_47 ?_
    refine V.aload_n (pc := 48) C dX9_run_48 0 rfl ?_
    replace hf := ob_some hf
    obtain ⟨p19, h20, hf⟩ := hf
    refine V.getR (pc := 49) C kX9 (k := 16) (by decide) wd_1066 h20 dX9_run_49 ?_
    refine V.bipush (pc := 52) C dX9_run_52 (v := (12 : Int32)) (by decide) ?_
    refine V.aload_n (pc := 54) C dX9_run_54 0 rfl ?_
    replace hf := ob_some hf
    obtain ⟨x21, h22, hf⟩ := hf
    refine V.getI (pc := 55) C kX9 (k := 20) (by decide) wd_1070 h22 dX9_run_55 ?_
    replace hf := ob_some hf
    obtain ⟨g23, h24, hf⟩ := hf
    refine V.iast (pc := 58) C h24 dX9_run_58 ?_
    refine V.iconst (pc := 59) C dX9_run_59 (v := (0 : Int32)) (by decide) ?_
    refine V.istore_n (pc := 60) (L' := [(3, .int (0 : Int32)), (0, .ref a0), (1, .int a1), (2, .int a2)]) C dX9_run_60 (by decide) rfl ?_
    refine V.sub (L' := [(0, .ref a0), (3, .int (0 : Int32))]) [1, 0] rfl ?_
    exact bX9_run_61 C  _ _ _ _ hf
  replace hf := ite_t c6 hf
  refine V.iconst (pc := 20) C dX9_run_20 (v := (-1 : Int32)) (by decide) ?_
  obtain ⟨f1, f2⟩ := fin2 hf
  clear hf
  subst f1
  subst f2
  exact V.iret (pc := 21) C rfl dX9_run_21
theorem dX9_layout_0 : decode cX9_layout 0 = .ok (.aload_n 0, 1) := by decide +kernel
theorem dX9_layout_1 : decode cX9_layout 1 = .ok (.iload_n 1, 1) := by decide +kernel
theorem dX9_layout_2 : decode cX9_layout 2 = .ok (.invokevirtual 355, 3) := by decide +kernel
theorem dX9_layout_5 : decode cX9_layout 5 = .ok (.ifCond .eq 16, 3) := by decide +kernel
theorem dX9_layout_8 : decode cX9_layout 8 = .ok (.aload_n 0, 1) := by decide +kernel
theorem dX9_layout_9 : decode cX9_layout 9 = .ok (.iload_n 2, 1) := by decide +kernel
theorem dX9_layout_10 : decode cX9_layout 10 = .ok (.invokevirtual 355, 3) := by decide +kernel
theorem dX9_layout_13 : decode cX9_layout 13 = .ok (.ifCond .eq 8, 3) := by decide +kernel
theorem dX9_layout_16 : decode cX9_layout 16 = .ok (.iload_n 1, 1) := by decide +kernel
theorem dX9_layout_17 : decode cX9_layout 17 = .ok (.iload_n 2, 1) := by decide +kernel
theorem dX9_layout_18 : decode cX9_layout 18 = .ok (.if_icmp .ne 5, 3) := by decide +kernel
theorem dX9_layout_21 : decode cX9_layout 21 = .ok (.iconst (-1), 1) := by decide +kernel
theorem dX9_layout_22 : decode cX9_layout 22 = .ok (.ireturn, 1) := by decide +kernel
theorem dX9_layout_23 : decode cX9_layout 23 = .ok (.aload_n 0, 1) := by decide +kernel
theorem dX9_layout_24 : decode cX9_layout 24 = .ok (.invokevirtual 358, 3) := by decide +kernel
theorem dX9_layout_27 : decode cX9_layout 27 = .ok (.aload_n 0, 1) := by decide +kernel
theorem dX9_layout_28 : decode cX9_layout 28 = .ok (.getfield 32, 3) := by decide +kernel
theorem dX9_layout_31 : decode cX9_layout 31 = .ok (.iconst 4, 1) := by decide +kernel
theorem dX9_layout_32 : decode cX9_layout 32 = .ok (.iload_n 1, 1) := by decide +kernel
theorem dX9_layout_33 : decode cX9_layout 33 = .ok (.iadd, 1) := by decide +kernel
theorem dX9_layout_34 : decode cX9_layout 34 = .ok (.iaload, 1) := by decide +kernel
theorem dX9_layout_35 : decode cX9_layout 35 = .ok (.istore_n 3, 1) := by decide +kernel
theorem dX9_layout_36 : decode cX9_layout 36 = .ok (.aload_n 0, 1) := by decide +kernel
theorem dX9_layout_37 : decode cX9_layout 37 = .ok (.getfield 32, 3) := by decide +kernel
theorem dX9_layout_40 : decode cX9_layout 40 = .ok (.iconst 4, 1) := by decide +kernel
theorem dX9_layout_41 : decode cX9_layout 41 = .ok (.iload_n 1, 1) := by decide +kernel
theorem dX9_layout_42 : decode cX9_layout 42 = .ok (.iadd, 1) := by decide +kernel
theorem dX9_layout_43 : decode cX9_layout 43 = .ok (.aload_n 0, 1) := by decide +kernel
theorem dX9_layout_44 : decode cX9_layout 44 = .ok (.getfield 32, 3) := by decide +kernel
theorem dX9_layout_47 : decode cX9_layout 47 = .ok (.iconst 4, 1) := by decide +kernel
theorem dX9_layout_48 : decode cX9_layout 48 = .ok (.iload_n 2, 1) := by decide +kernel
theorem dX9_layout_49 : decode cX9_layout 49 = .ok (.iadd, 1) := by decide +kernel
theorem dX9_layout_50 : decode cX9_layout 50 = .ok (.iaload, 1) := by decide +kernel
theorem dX9_layout_51 : decode cX9_layout 51 = .ok (.iastore, 1) := by decide +kernel
theorem dX9_layout_52 : decode cX9_layout 52 = .ok (.aload_n 0, 1) := by decide +kernel
theorem dX9_layout_53 : decode cX9_layout 53 = .ok (.getfield 32, 3) := by decide +kernel
theorem dX9_layout_56 : decode cX9_layout 56 = .ok (.iconst 4, 1) := by decide +kernel
theorem dX9_layout_57 : decode cX9_layout 57 = .ok (.iload_n 2, 1) := by decide +kernel
theorem dX9_layout_58 : decode cX9_layout 58 = .ok (.iadd, 1) := by decide +kernel
theorem dX9_layout_59 : decode cX9_layout 59 = .ok (.iload_n 3, 1) := by decide +kernel
theorem dX9_layout_60 : decode cX9_layout 60 = .ok (.iastore, 1) := by decide +kernel
theorem dX9_layout_61 : decode cX9_layout 61 = .ok (.aload_n 0, 1) := by decide +kernel
theorem dX9_layout_62 : decode cX9_layout 62 = .ok (.getfield 32, 3) := by decide +kernel
theorem dX9_layout_65 : decode cX9_layout 65 = .ok (.iconst 4, 1) := by decide +kernel
theorem dX9_layout_66 : decode cX9_layout 66 = .ok (.iload_n 1, 1) := by decide +kernel
theorem dX9_layout_67 : decode cX9_layout 67 = .ok (.iadd, 1) := by decide +kernel
theorem dX9_layout_68 : decode cX9_layout 68 = .ok (.iaload, 1) := by decide +kernel
theorem dX9_layout_69 : decode cX9_layout 69 = .ok (.ireturn, 1) := by decide +kernel
def fX9_layout (g : PH) (a0 : Nat) (a1 : Int32) (a2 : Int32) : Option (Int32 × PH) :=
  okb (isO g a0 9) ((fX9_isCell g a0 a1).bind fun q1 =>
  (if q1.1 = 0 then (some ((-1 : Int32), q1.2)) else
  ((fX9_isCell q1.2 a0 a2).bind fun q4 =>
  (if q4.1 = 0 then (some ((-1 : Int32), q4.2)) else
  (if a1 = a2 then (some ((-1 : Int32), q4.2)) else
  ((fX9_keepsAct q4.2 a0).bind fun q8 =>
  ((getR q8.2 a0 9 16).bind fun p10 =>
  ((ldI q8.2 p10 0 ((4 : Int32) + a1)).bind fun x12 =>
  ((getR q8.2 a0 9 16).bind fun p14 =>
  ((getR q8.2 a0 9 16).bind fun p16 =>
  ((ldI q8.2 p16 0 ((4 : Int32) + a2)).bind fun x18 =>
  ((stI q8.2 p14 0 ((4 : Int32) + a1) x18).bind fun g20 =>
  ((getR g20 a0 9 16).bind fun p22 =>
  ((stI g20 p22 0 ((4 : Int32) + a2) x12).bind fun g24 =>
  ((getR g24 a0 9 16).bind fun p26 =>
  ((ldI g24 p26 0 ((4 : Int32) + a1)).bind fun x28 =>
  (some (x28, g24))))))))))))))))))
theorem oX9_layout {g : PH} {a0 : Nat} {a1 : Int32} {a2 : Int32} {q : (Int32 × PH)} (h : fX9_layout g a0 a1 a2 = some q) : isO g a0 9 = true := by unfold fX9_layout at h; exact (okb_some h).1
theorem hyX9_layout : hMet yX9_layout RX9 cX9_layout 4 (some .int) 2 := ⟨wd_1528, wd_1526, wd_1527, wd_7, rfl, by decide +kernel, by decide +kernel, by decide +kernel⟩
set_option maxHeartbeats 4000000 in
set_option maxRecDepth 100000 in
theorem mX9_layout (l : Launch) (E : HE) (sz : Nat) {g g' : PH} {a0 : Nat} {a1 : Int32} {a2 : Int32} {r : Int32} (hf : fX9_layout g a0 a1 a2 = some (r, g')) : hM l E yX9_layout cX9_layout 4 (some .int) 1 21 0 0 sz g [.ref a0, .int a1, .int a2] (some (.int r)) g' := by
  refine hM.of (by decide) (Nat.le_of_ble_eq_true rfl) (fun K hl C hin hsz => ?_)
  subst hl
  subst hsz
  have C : VC K E 4 cX9_layout RX9 (some .int) := C
  unfold fX9_layout at hf
  replace hf := okb_some hf
  obtain ⟨ho, hf⟩ := hf
  refine V.start (L' := [(0, .ref a0), (1, .int a1), (2, .int a2)]) rfl ?_
  refine V.aload_n (pc := 0) C dX9_layout_0 0 rfl ?_
  refine V.iload_n (pc := 1) C dX9_layout_1 1 rfl ?_
  replace hf := ob_some hf
  obtain ⟨q1, h2, hf⟩ := hf
  refine V.callV0i (pc := 2) C hyX9_isCell wd_1497 (mX9_isCell (r := q1.1) (g' := q1.2) K.2.1 E (kS K) h2) rfl rfl rfl (oX9_isCell h2) ⟨Nat.le_of_ble_eq_true rfl, Nat.le_of_ble_eq_true rfl⟩ (Nat.le_of_ble_eq_true rfl) dX9_layout_2 ⟨Nat.zero_le _, Nat.zero_le _⟩ rfl ?_
  refine V.if_eq (pc := 5) (t := 21) C dX9_layout_5 (by decide) (fun c3 => ?_) (fun c3 => ?_)
  · replace hf := ite_t c3 hf
    refine V.iconst (pc := 21) C dX9_layout_21 (v := (-1 : Int32)) (by decide) ?_
    obtain ⟨f1, f2⟩ := fin2 hf
    clear hf
    subst f1
    subst f2
    exact V.iret (pc := 22) C rfl dX9_layout_22
  replace hf := ite_f c3 hf
  refine V.aload_n (pc := 8) C dX9_layout_8 0 rfl ?_
  refine V.iload_n (pc := 9) C dX9_layout_9 2 rfl ?_
  replace hf := ob_some hf
  obtain ⟨q4, h5, hf⟩ := hf
  refine V.callV0i (pc := 10) C hyX9_isCell wd_1497 (mX9_isCell (r := q4.1) (g' := q4.2) K.2.1 E (kS K) h5) rfl rfl rfl (oX9_isCell h5) ⟨Nat.le_of_ble_eq_true rfl, Nat.le_of_ble_eq_true rfl⟩ (Nat.le_of_ble_eq_true rfl) dX9_layout_10 ⟨Nat.zero_le _, Nat.zero_le _⟩ rfl ?_
  refine V.if_eq (pc := 13) (t := 21) C dX9_layout_13 (by decide) (fun c6 => ?_) (fun c6 => ?_)
  · replace hf := ite_t c6 hf
    refine V.iconst (pc := 21) C dX9_layout_21 (v := (-1 : Int32)) (by decide) ?_
    obtain ⟨f1, f2⟩ := fin2 hf
    clear hf
    subst f1
    subst f2
    exact V.iret (pc := 22) C rfl dX9_layout_22
  replace hf := ite_f c6 hf
  refine V.iload_n (pc := 16) C dX9_layout_16 1 rfl ?_
  refine V.iload_n (pc := 17) C dX9_layout_17 2 rfl ?_
  refine V.icmp_ne (pc := 18) (t := 23) C dX9_layout_18 (by decide) (fun c7 => ?_) (fun c7 => ?_)
  · replace hf := ite_f c7 hf
    refine V.aload_n (pc := 23) C dX9_layout_23 0 rfl ?_
    replace hf := ob_some hf
    obtain ⟨q8, h9, hf⟩ := hf
    refine V.callV0v (pc := 24) C hyX9_keepsAct wd_1501 (mX9_keepsAct (r := q8.1) (g' := q8.2) K.2.1 E (kS K) h9) rfl rfl rfl (oX9_keepsAct h9) ⟨Nat.le_of_ble_eq_true rfl, Nat.le_of_ble_eq_true rfl⟩ (Nat.le_of_ble_eq_true rfl) dX9_layout_24 ⟨Nat.zero_le _, Nat.zero_le _⟩ rfl ?_
    refine V.aload_n (pc := 27) C dX9_layout_27 0 rfl ?_
    replace hf := ob_some hf
    obtain ⟨p10, h11, hf⟩ := hf
    refine V.getR (pc := 28) C kX9 (k := 16) (by decide) wd_1066 h11 dX9_layout_28 ?_
    refine V.iconst (pc := 31) C dX9_layout_31 (v := (4 : Int32)) (by decide) ?_
    refine V.iload_n (pc := 32) C dX9_layout_32 1 rfl ?_
    refine V.iadd (pc := 33) C dX9_layout_33 ?_
    replace hf := ob_some hf
    obtain ⟨x12, h13, hf⟩ := hf
    refine V.iald (pc := 34) C h13 dX9_layout_34 ?_
    refine V.istore_n (pc := 35) (L' := [(3, .int x12), (0, .ref a0), (1, .int a1), (2, .int a2)]) C dX9_layout_35 (by decide) rfl ?_
    refine V.aload_n (pc := 36) C dX9_layout_36 1 rfl ?_
    replace hf := ob_some hf
    obtain ⟨p14, h15, hf⟩ := hf
    refine V.getR (pc := 37) C kX9 (k := 16) (by decide) wd_1066 h15 dX9_layout_37 ?_
    refine V.iconst (pc := 40) C dX9_layout_40 (v := (4 : Int32)) (by decide) ?_
    refine V.iload_n (pc := 41) C dX9_layout_41 2 rfl ?_
    refine V.iadd (pc := 42) C dX9_layout_42 ?_
    refine V.aload_n (pc := 43) C dX9_layout_43 1 rfl ?_
    replace hf := ob_some hf
    obtain ⟨p16, h17, hf⟩ := hf
    refine V.getR (pc := 44) C kX9 (k := 16) (by decide) wd_1066 h17 dX9_layout_44 ?_
    refine V.iconst (pc := 47) C dX9_layout_47 (v := (4 : Int32)) (by decide) ?_
    refine V.iload_n (pc := 48) C dX9_layout_48 3 rfl ?_
    refine V.iadd (pc := 49) C dX9_layout_49 ?_
    replace hf := ob_some hf
    obtain ⟨x18, h19, hf⟩ := hf
    refine V.iald (pc := 50) C h19 dX9_layout_50 ?_
    replace hf := ob_some hf
    obtain ⟨g20, h21, hf⟩ := hf
    refine V.iast (pc := 51) C h21 dX9_layout_51 ?_
    refine V.aload_n (pc := 52) C dX9_layout_52 1 rfl ?_
    replace hf := ob_some hf
    obtain ⟨p22, h23, hf⟩ := hf
    refine V.getR (pc := 53) C kX9 (k := 16) (by decide) wd_1066 h23 dX9_layout_53 ?_
    refine V.iconst (pc := 56) C dX9_layout_56 (v := (4 : Int32)) (by decide) ?_
    refine V.iload_n (pc := 57) C dX9_layout_57 3 rfl ?_
    refine V.iadd (pc := 58) C dX9_layout_58 ?_
    refine V.iload_n (pc := 59) C dX9_layout_59 0 rfl ?_
    replace hf := ob_some hf
    obtain ⟨g24, h25, hf⟩ := hf
    refine V.iast (pc := 60) C h25 dX9_layout_60 ?_
    refine V.aload_n (pc := 61) C dX9_layout_61 1 rfl ?_
    replace hf := ob_some hf
    obtain ⟨p26, h27, hf⟩ := hf
    refine V.getR (pc := 62) C kX9 (k := 16) (by decide) wd_1066 h27 dX9_layout_62 ?_
    refine V.iconst (pc := 65) C dX9_layout_65 (v := (4 : Int32)) (by decide) ?_
    refine V.iload_n (pc := 66) C dX9_layout_66 2 rfl ?_
    refine V.iadd (pc := 67) C dX9_layout_67 ?_
    replace hf := ob_some hf
    obtain ⟨x28, h29, hf⟩ := hf
    refine V.iald (pc := 68) C h29 dX9_layout_68 ?_
    obtain ⟨f1, f2⟩ := fin2 hf
    clear hf
    subst f1
    subst f2
    exact V.iret (pc := 69) C rfl dX9_layout_69
  replace hf := ite_t c7 hf
  refine V.iconst (pc := 21) C dX9_layout_21 (v := (-1 : Int32)) (by decide) ?_
  obtain ⟨f1, f2⟩ := fin2 hf
  clear hf
  subst f1
  subst f2
  exact V.iret (pc := 22) C rfl dX9_layout_22
theorem dX9_cell_0 : decode cX9_cell 0 = .ok (.aload_n 0, 1) := by decide +kernel
theorem dX9_cell_1 : decode cX9_cell 1 = .ok (.iload_n 1, 1) := by decide +kernel
theorem dX9_cell_2 : decode cX9_cell 2 = .ok (.invokevirtual 355, 3) := by decide +kernel
theorem dX9_cell_5 : decode cX9_cell 5 = .ok (.ifCond .eq 13, 3) := by decide +kernel
theorem dX9_cell_8 : decode cX9_cell 8 = .ok (.iload_n 2, 1) := by decide +kernel
theorem dX9_cell_9 : decode cX9_cell 9 = .ok (.i2l, 1) := by decide +kernel
theorem dX9_cell_10 : decode cX9_cell 10 = .ok (.lconst 0, 1) := by decide +kernel
theorem dX9_cell_11 : decode cX9_cell 11 = .ok (.lconst 1, 1) := by decide +kernel
theorem dX9_cell_12 : decode cX9_cell 12 = .ok (.invokestatic 86, 3) := by decide +kernel
theorem dX9_cell_15 : decode cX9_cell 15 = .ok (.ifCond .ne 5, 3) := by decide +kernel
theorem dX9_cell_18 : decode cX9_cell 18 = .ok (.iconst (-1), 1) := by decide +kernel
theorem dX9_cell_19 : decode cX9_cell 19 = .ok (.ireturn, 1) := by decide +kernel
theorem dX9_cell_20 : decode cX9_cell 20 = .ok (.iload_n 2, 1) := by decide +kernel
theorem dX9_cell_21 : decode cX9_cell 21 = .ok (.ifCond .ne 14, 3) := by decide +kernel
theorem dX9_cell_24 : decode cX9_cell 24 = .ok (.aload_n 0, 1) := by decide +kernel
theorem dX9_cell_25 : decode cX9_cell 25 = .ok (.getfield 32, 3) := by decide +kernel
theorem dX9_cell_28 : decode cX9_cell 28 = .ok (.iconst 4, 1) := by decide +kernel
theorem dX9_cell_29 : decode cX9_cell 29 = .ok (.iload_n 1, 1) := by decide +kernel
theorem dX9_cell_30 : decode cX9_cell 30 = .ok (.iadd, 1) := by decide +kernel
theorem dX9_cell_31 : decode cX9_cell 31 = .ok (.iaload, 1) := by decide +kernel
theorem dX9_cell_32 : decode cX9_cell 32 = .ok (.goto 8, 3) := by decide +kernel
theorem dX9_cell_35 : decode cX9_cell 35 = .ok (.aload_n 0, 1) := by decide +kernel
theorem dX9_cell_36 : decode cX9_cell 36 = .ok (.iload_n 1, 1) := by decide +kernel
theorem dX9_cell_37 : decode cX9_cell 37 = .ok (.invokevirtual 200, 3) := by decide +kernel
theorem dX9_cell_40 : decode cX9_cell 40 = .ok (.ireturn, 1) := by decide +kernel
def fX9_cell (g : PH) (a0 : Nat) (a1 : Int32) (a2 : Int32) : Option (Int32 × PH) :=
  okb (isO g a0 9) ((fX9_isCell g a0 a1).bind fun q1 =>
  (if q1.1 = 0 then (some ((-1 : Int32), q1.2)) else
  ((fX9_isIn q1.2 a2.toInt64 (0 : Int64) (1 : Int64)).bind fun q4 =>
  (if q4.1 = 0 then (some ((-1 : Int32), q4.2)) else
  (if a2 = 0 then ((getR q4.2 a0 9 16).bind fun p10 =>
  ((ldI q4.2 p10 0 ((4 : Int32) + a1)).bind fun x12 =>
  (some (x12, q4.2)))) else
  ((fX9_bit q4.2 a0 a1).bind fun q8 =>
  (some (q8.1, q8.2))))))))
theorem oX9_cell {g : PH} {a0 : Nat} {a1 : Int32} {a2 : Int32} {q : (Int32 × PH)} (h : fX9_cell g a0 a1 a2 = some q) : isO g a0 9 = true := by unfold fX9_cell at h; exact (okb_some h).1
theorem hyX9_cell : hMet yX9_cell RX9 cX9_cell 3 (some .int) 2 := ⟨wd_1532, wd_1530, wd_1531, wd_7, rfl, by decide +kernel, by decide +kernel, by decide +kernel⟩
set_option maxHeartbeats 4000000 in
set_option maxRecDepth 100000 in
theorem mX9_cell (l : Launch) (E : HE) (sz : Nat) {g g' : PH} {a0 : Nat} {a1 : Int32} {a2 : Int32} {r : Int32} (hf : fX9_cell g a0 a1 a2 = some (r, g')) : hM l E yX9_cell cX9_cell 3 (some .int) 1 25 0 0 sz g [.ref a0, .int a1, .int a2] (some (.int r)) g' := by
  refine hM.of (by decide) (Nat.le_of_ble_eq_true rfl) (fun K hl C hin hsz => ?_)
  subst hl
  subst hsz
  have C : VC K E 3 cX9_cell RX9 (some .int) := C
  unfold fX9_cell at hf
  replace hf := okb_some hf
  obtain ⟨ho, hf⟩ := hf
  refine V.start (L' := [(0, .ref a0), (1, .int a1), (2, .int a2)]) rfl ?_
  refine V.aload_n (pc := 0) C dX9_cell_0 0 rfl ?_
  refine V.iload_n (pc := 1) C dX9_cell_1 1 rfl ?_
  replace hf := ob_some hf
  obtain ⟨q1, h2, hf⟩ := hf
  refine V.callV0i (pc := 2) C hyX9_isCell wd_1497 (mX9_isCell (r := q1.1) (g' := q1.2) K.2.1 E (kS K) h2) rfl rfl rfl (oX9_isCell h2) ⟨Nat.le_of_ble_eq_true rfl, Nat.le_of_ble_eq_true rfl⟩ (Nat.le_of_ble_eq_true rfl) dX9_cell_2 ⟨Nat.zero_le _, Nat.zero_le _⟩ rfl ?_
  refine V.if_eq (pc := 5) (t := 18) C dX9_cell_5 (by decide) (fun c3 => ?_) (fun c3 => ?_)
  · replace hf := ite_t c3 hf
    refine V.iconst (pc := 18) C dX9_cell_18 (v := (-1 : Int32)) (by decide) ?_
    obtain ⟨f1, f2⟩ := fin2 hf
    clear hf
    subst f1
    subst f2
    exact V.iret (pc := 19) C rfl dX9_cell_19
  replace hf := ite_f c3 hf
  refine V.iload_n (pc := 8) C dX9_cell_8 2 rfl ?_
  refine V.i2l (pc := 9) C dX9_cell_9 ?_
  refine V.lconst (pc := 10) C dX9_cell_10 (v := (0 : Int64)) (by decide) ?_
  refine V.lconst (pc := 11) C dX9_cell_11 (v := (1 : Int64)) (by decide) ?_
  replace hf := ob_some hf
  obtain ⟨q4, h5, hf⟩ := hf
  refine V.callS0i (pc := 12) C hyX9_isIn wd_1182 (mX9_isIn (r := q4.1) (g' := q4.2) K.2.1 E (kS K) h5) rfl ⟨Nat.le_of_ble_eq_true rfl, Nat.le_of_ble_eq_true rfl⟩ (Nat.le_of_ble_eq_true rfl) dX9_cell_12 ⟨Nat.zero_le _, Nat.zero_le _⟩ rfl ?_
  refine V.if_ne (pc := 15) (t := 20) C dX9_cell_15 (by decide) (fun c6 => ?_) (fun c6 => ?_)
  · replace hf := ite_f c6 hf
    refine V.iload_n (pc := 20) C dX9_cell_20 2 rfl ?_
    refine V.if_ne (pc := 21) (t := 35) C dX9_cell_21 (by decide) (fun c7 => ?_) (fun c7 => ?_)
    · replace hf := ite_f c7 hf
      refine V.aload_n (pc := 35) C dX9_cell_35 0 rfl ?_
      refine V.iload_n (pc := 36) C dX9_cell_36 1 rfl ?_
      replace hf := ob_some hf
      obtain ⟨q8, h9, hf⟩ := hf
      refine V.callV0i (pc := 37) C hyX9_bit wd_1348 (mX9_bit (r := q8.1) (g' := q8.2) K.2.1 E (kS K) h9) rfl rfl rfl (oX9_bit h9) ⟨Nat.le_of_ble_eq_true rfl, Nat.le_of_ble_eq_true rfl⟩ (Nat.le_of_ble_eq_true rfl) dX9_cell_37 ⟨Nat.zero_le _, Nat.zero_le _⟩ rfl ?_
      obtain ⟨f1, f2⟩ := fin2 hf
      clear hf
      subst f1
      subst f2
      exact V.iret (pc := 40) C rfl dX9_cell_40
    replace hf := ite_t c7 hf
    refine V.aload_n (pc := 24) C dX9_cell_24 0 rfl ?_
    replace hf := ob_some hf
    obtain ⟨p10, h11, hf⟩ := hf
    refine V.getR (pc := 25) C kX9 (k := 16) (by decide) wd_1066 h11 dX9_cell_25 ?_
    refine V.iconst (pc := 28) C dX9_cell_28 (v := (4 : Int32)) (by decide) ?_
    refine V.iload_n (pc := 29) C dX9_cell_29 1 rfl ?_
    refine V.iadd (pc := 30) C dX9_cell_30 ?_
    replace hf := ob_some hf
    obtain ⟨x12, h13, hf⟩ := hf
    refine V.iald (pc := 31) C h13 dX9_cell_31 ?_
    refine V.goto (pc := 32) (t := 40) C dX9_cell_32 (by decide) ?_
    obtain ⟨f1, f2⟩ := fin2 hf
    clear hf
    subst f1
    subst f2
    exact V.iret (pc := 40) C rfl dX9_cell_40
  replace hf := ite_t c6 hf
  refine V.iconst (pc := 18) C dX9_cell_18 (v := (-1 : Int32)) (by decide) ?_
  obtain ⟨f1, f2⟩ := fin2 hf
  clear hf
  subst f1
  subst f2
  exact V.iret (pc := 19) C rfl dX9_cell_19
theorem dX9_log_0 : decode cX9_log 0 = .ok (.iload_n 1, 1) := by decide +kernel
theorem dX9_log_1 : decode cX9_log 1 = .ok (.ifCond .lt 13, 3) := by decide +kernel
theorem dX9_log_4 : decode cX9_log 4 = .ok (.iload_n 2, 1) := by decide +kernel
theorem dX9_log_5 : decode cX9_log 5 = .ok (.i2l, 1) := by decide +kernel
theorem dX9_log_6 : decode cX9_log 6 = .ok (.lconst 0, 1) := by decide +kernel
theorem dX9_log_7 : decode cX9_log 7 = .ok (.lconst 1, 1) := by decide +kernel
theorem dX9_log_8 : decode cX9_log 8 = .ok (.invokestatic 86, 3) := by decide +kernel
theorem dX9_log_11 : decode cX9_log 11 = .ok (.ifCond .ne 5, 3) := by decide +kernel
theorem dX9_log_14 : decode cX9_log 14 = .ok (.iconst (-1), 1) := by decide +kernel
theorem dX9_log_15 : decode cX9_log 15 = .ok (.ireturn, 1) := by decide +kernel
theorem dX9_log_16 : decode cX9_log 16 = .ok (.aload_n 0, 1) := by decide +kernel
theorem dX9_log_17 : decode cX9_log 17 = .ok (.getfield 32, 3) := by decide +kernel
theorem dX9_log_20 : decode cX9_log 20 = .ok (.bipush 12, 2) := by decide +kernel
theorem dX9_log_22 : decode cX9_log 22 = .ok (.iaload, 1) := by decide +kernel
theorem dX9_log_23 : decode cX9_log 23 = .ok (.bipush 60, 2) := by decide +kernel
theorem dX9_log_25 : decode cX9_log 25 = .ok (.if_icmp .ge 13, 3) := by decide +kernel
theorem dX9_log_28 : decode cX9_log 28 = .ok (.aload_n 0, 1) := by decide +kernel
theorem dX9_log_29 : decode cX9_log 29 = .ok (.getfield 32, 3) := by decide +kernel
theorem dX9_log_32 : decode cX9_log 32 = .ok (.bipush 12, 2) := by decide +kernel
theorem dX9_log_34 : decode cX9_log 34 = .ok (.iaload, 1) := by decide +kernel
theorem dX9_log_35 : decode cX9_log 35 = .ok (.goto 5, 3) := by decide +kernel
theorem dX9_log_38 : decode cX9_log 38 = .ok (.bipush 60, 2) := by decide +kernel
theorem dX9_log_40 : decode cX9_log 40 = .ok (.istore_n 3, 1) := by decide +kernel
theorem dX9_log_41 : decode cX9_log 41 = .ok (.iload_n 1, 1) := by decide +kernel
theorem dX9_log_42 : decode cX9_log 42 = .ok (.iload_n 3, 1) := by decide +kernel
theorem dX9_log_43 : decode cX9_log 43 = .ok (.if_icmp .ge 19, 3) := by decide +kernel
theorem dX9_log_46 : decode cX9_log 46 = .ok (.aload_n 0, 1) := by decide +kernel
theorem dX9_log_47 : decode cX9_log 47 = .ok (.getfield 32, 3) := by decide +kernel
theorem dX9_log_50 : decode cX9_log 50 = .ok (.bipush 13, 2) := by decide +kernel
theorem dX9_log_52 : decode cX9_log 52 = .ok (.iconst 2, 1) := by decide +kernel
theorem dX9_log_53 : decode cX9_log 53 = .ok (.iload_n 1, 1) := by decide +kernel
theorem dX9_log_54 : decode cX9_log 54 = .ok (.imul, 1) := by decide +kernel
theorem dX9_log_55 : decode cX9_log 55 = .ok (.iadd, 1) := by decide +kernel
theorem dX9_log_56 : decode cX9_log 56 = .ok (.iload_n 2, 1) := by decide +kernel
theorem dX9_log_57 : decode cX9_log 57 = .ok (.iadd, 1) := by decide +kernel
theorem dX9_log_58 : decode cX9_log 58 = .ok (.iaload, 1) := by decide +kernel
theorem dX9_log_59 : decode cX9_log 59 = .ok (.goto 5, 3) := by decide +kernel
theorem dX9_log_62 : decode cX9_log 62 = .ok (.bipush (-2), 2) := by decide +kernel
theorem dX9_log_64 : decode cX9_log 64 = .ok (.ireturn, 1) := by decide +kernel
def fX9_log_40  (g : PH) (v0 : Nat) (v1 : Int32) (v2 : Int32) (s0 : Int32) : Option (Int32 × PH) :=
  if s0 ≤ v1 then (some ((-2 : Int32), g)) else
  ((getR g v0 9 16).bind fun p2 =>
  ((ldI g p2 0 (((13 : Int32) + ((2 : Int32) * v1)) + v2)).bind fun x4 =>
  (some (x4, g))))
set_option maxHeartbeats 4000000 in
set_option maxRecDepth 100000 in
theorem bX9_log_40 {K : HK} {E : HE} {r : Int32} {g' : PH}  (C : VC K E 4 cX9_log RX9 (some .int))  {g : PH} {v0 : Nat} {v1 : Int32} {v2 : Int32} {s0 : Int32} (hf : fX9_log_40  g v0 v1 v2 s0 = some (r, g')) : V K E (hRm 1 25 0 0) 4 (hZ K E (some (.int r)) g' 0 0) 0 0 (kS K) g 40 [(0, .ref v0), (1, .int v1), (2, .int v2)] [.int s0] := by
  unfold fX9_log_40 at hf
  refine V.istore_n (pc := 40) (L' := [(3, .int s0), (0, .ref v0), (1, .int v1), (2, .int v2)]) C dX9_log_40 (by decide) rfl ?_
  refine V.iload_n (pc := 41) C dX9_log_41 2 rfl ?_
  refine V.iload_n (pc := 42) C dX9_log_42 0 rfl ?_
  refine V.icmp_ge (pc := 43) (t := 62) C dX9_log_43 (by decide) (fun c1 => ?_) (fun c1 => ?_)
  · replace hf := ite_t c1 hf
    refine V.bipush (pc := 62) C dX9_log_62 (v := (-2 : Int32)) (by decide) ?_
    obtain ⟨f1, f2⟩ := fin2 hf
    clear hf
    subst f1
    subst f2
    exact V.iret (pc := 64) C rfl dX9_log_64
  replace hf := ite_f c1 hf
  refine V.aload_n (pc := 46) C dX9_log_46 1 rfl ?_
  replace hf := ob_some hf
  obtain ⟨p2, h3, hf⟩ := hf
  refine V.getR (pc := 47) C kX9 (k := 16) (by decide) wd_1066 h3 dX9_log_47 ?_
  refine V.bipush (pc := 50) C dX9_log_50 (v := (13 : Int32)) (by decide) ?_
  refine V.iconst (pc := 52) C dX9_log_52 (v := (2 : Int32)) (by decide) ?_
  refine V.iload_n (pc := 53) C dX9_log_53 2 rfl ?_
  refine V.imul (pc := 54) C dX9_log_54 ?_
  refine V.iadd (pc := 55) C dX9_log_55 ?_
  refine V.iload_n (pc := 56) C dX9_log_56 3 rfl ?_
  refine V.iadd (pc := 57) C dX9_log_57 ?_
  replace hf := ob_some hf
  obtain ⟨x4, h5, hf⟩ := hf
  refine V.iald (pc := 58) C h5 dX9_log_58 ?_
  refine V.goto (pc := 59) (t := 64) C dX9_log_59 (by decide) ?_
  obtain ⟨f1, f2⟩ := fin2 hf
  clear hf
  subst f1
  subst f2
  exact V.iret (pc := 64) C rfl dX9_log_64
def fX9_log (g : PH) (a0 : Nat) (a1 : Int32) (a2 : Int32) : Option (Int32 × PH) :=
  okb (isO g a0 9) (if a1 < 0 then (some ((-1 : Int32), g)) else
  ((fX9_isIn g a2.toInt64 (0 : Int64) (1 : Int64)).bind fun q2 =>
  (if q2.1 = 0 then (some ((-1 : Int32), q2.2)) else
  ((getR q2.2 a0 9 16).bind fun p5 =>
  ((ldI q2.2 p5 0 (12 : Int32)).bind fun x7 =>
  (if (60 : Int32) ≤ x7 then (fX9_log_40 q2.2 a0 a1 a2 (60 : Int32)) else
  ((getR q2.2 a0 9 16).bind fun p10 =>
  ((ldI q2.2 p10 0 (12 : Int32)).bind fun x12 =>
  (fX9_log_40 q2.2 a0 a1 a2 x12)))))))))
theorem oX9_log {g : PH} {a0 : Nat} {a1 : Int32} {a2 : Int32} {q : (Int32 × PH)} (h : fX9_log g a0 a1 a2 = some q) : isO g a0 9 = true := by unfold fX9_log at h; exact (okb_some h).1
theorem hyX9_log : hMet yX9_log RX9 cX9_log 4 (some .int) 2 := ⟨wd_1536, wd_1534, wd_1535, wd_7, rfl, by decide +kernel, by decide +kernel, by decide +kernel⟩
set_option maxHeartbeats 4000000 in
set_option maxRecDepth 100000 in
theorem mX9_log (l : Launch) (E : HE) (sz : Nat) {g g' : PH} {a0 : Nat} {a1 : Int32} {a2 : Int32} {r : Int32} (hf : fX9_log g a0 a1 a2 = some (r, g')) : hM l E yX9_log cX9_log 4 (some .int) 1 25 0 0 sz g [.ref a0, .int a1, .int a2] (some (.int r)) g' := by
  refine hM.of (by decide) (Nat.le_of_ble_eq_true rfl) (fun K hl C hin hsz => ?_)
  subst hl
  subst hsz
  have C : VC K E 4 cX9_log RX9 (some .int) := C
  unfold fX9_log at hf
  replace hf := okb_some hf
  obtain ⟨ho, hf⟩ := hf
  refine V.start (L' := [(0, .ref a0), (1, .int a1), (2, .int a2)]) rfl ?_
  refine V.iload_n (pc := 0) C dX9_log_0 1 rfl ?_
  refine V.if_lt (pc := 1) (t := 14) C dX9_log_1 (by decide) (fun c1 => ?_) (fun c1 => ?_)
  · replace hf := ite_t c1 hf
    refine V.iconst (pc := 14) C dX9_log_14 (v := (-1 : Int32)) (by decide) ?_
    obtain ⟨f1, f2⟩ := fin2 hf
    clear hf
    subst f1
    subst f2
    exact V.iret (pc := 15) C rfl dX9_log_15
  replace hf := ite_f c1 hf
  refine V.iload_n (pc := 4) C dX9_log_4 2 rfl ?_
  refine V.i2l (pc := 5) C dX9_log_5 ?_
  refine V.lconst (pc := 6) C dX9_log_6 (v := (0 : Int64)) (by decide) ?_
  refine V.lconst (pc := 7) C dX9_log_7 (v := (1 : Int64)) (by decide) ?_
  replace hf := ob_some hf
  obtain ⟨q2, h3, hf⟩ := hf
  refine V.callS0i (pc := 8) C hyX9_isIn wd_1182 (mX9_isIn (r := q2.1) (g' := q2.2) K.2.1 E (kS K) h3) rfl ⟨Nat.le_of_ble_eq_true rfl, Nat.le_of_ble_eq_true rfl⟩ (Nat.le_of_ble_eq_true rfl) dX9_log_8 ⟨Nat.zero_le _, Nat.zero_le _⟩ rfl ?_
  refine V.if_ne (pc := 11) (t := 16) C dX9_log_11 (by decide) (fun c4 => ?_) (fun c4 => ?_)
  · replace hf := ite_f c4 hf
    refine V.aload_n (pc := 16) C dX9_log_16 0 rfl ?_
    replace hf := ob_some hf
    obtain ⟨p5, h6, hf⟩ := hf
    refine V.getR (pc := 17) C kX9 (k := 16) (by decide) wd_1066 h6 dX9_log_17 ?_
    refine V.bipush (pc := 20) C dX9_log_20 (v := (12 : Int32)) (by decide) ?_
    replace hf := ob_some hf
    obtain ⟨x7, h8, hf⟩ := hf
    refine V.iald (pc := 22) C h8 dX9_log_22 ?_
    refine V.bipush (pc := 23) C dX9_log_23 (v := (60 : Int32)) (by decide) ?_
    refine V.icmp_ge (pc := 25) (t := 38) C dX9_log_25 (by decide) (fun c9 => ?_) (fun c9 => ?_)
    · replace hf := ite_t c9 hf
      refine V.bipush (pc := 38) C dX9_log_38 (v := (60 : Int32)) (by decide) ?_
      refine V.sub (L' := [(0, .ref a0), (1, .int a1), (2, .int a2)]) [0, 1, 2] rfl ?_
      exact bX9_log_40 C  hf
    replace hf := ite_f c9 hf
    refine V.aload_n (pc := 28) C dX9_log_28 0 rfl ?_
    replace hf := ob_some hf
    obtain ⟨p10, h11, hf⟩ := hf
    refine V.getR (pc := 29) C kX9 (k := 16) (by decide) wd_1066 h11 dX9_log_29 ?_
    refine V.bipush (pc := 32) C dX9_log_32 (v := (12 : Int32)) (by decide) ?_
    replace hf := ob_some hf
    obtain ⟨x12, h13, hf⟩ := hf
    refine V.iald (pc := 34) C h13 dX9_log_34 ?_
    refine V.goto (pc := 35) (t := 40) C dX9_log_35 (by decide) ?_
    refine V.sub (L' := [(0, .ref a0), (1, .int a1), (2, .int a2)]) [0, 1, 2] rfl ?_
    exact bX9_log_40 C  hf
  replace hf := ite_t c4 hf
  refine V.iconst (pc := 14) C dX9_log_14 (v := (-1 : Int32)) (by decide) ?_
  obtain ⟨f1, f2⟩ := fin2 hf
  clear hf
  subst f1
  subst f2
  exact V.iret (pc := 15) C rfl dX9_log_15
theorem dX9_isAsLogged_0 : decode cX9_isAsLogged 0 = .ok (.aload_n 0, 1) := by decide +kernel
theorem dX9_isAsLogged_1 : decode cX9_isAsLogged 1 = .ok (.getfield 222, 3) := by decide +kernel
theorem dX9_isAsLogged_4 : decode cX9_isAsLogged 4 = .ok (.aload_n 0, 1) := by decide +kernel
theorem dX9_isAsLogged_5 : decode cX9_isAsLogged 5 = .ok (.getfield 35, 3) := by decide +kernel
theorem dX9_isAsLogged_8 : decode cX9_isAsLogged 8 = .ok (.bipush 12, 2) := by decide +kernel
theorem dX9_isAsLogged_10 : decode cX9_isAsLogged 10 = .ok (.iaload, 1) := by decide +kernel
theorem dX9_isAsLogged_11 : decode cX9_isAsLogged 11 = .ok (.if_icmp .eq 5, 3) := by decide +kernel
theorem dX9_isAsLogged_14 : decode cX9_isAsLogged 14 = .ok (.iconst 0, 1) := by decide +kernel
theorem dX9_isAsLogged_15 : decode cX9_isAsLogged 15 = .ok (.ireturn, 1) := by decide +kernel
theorem dX9_isAsLogged_16 : decode cX9_isAsLogged 16 = .ok (.iconst 0, 1) := by decide +kernel
theorem dX9_isAsLogged_17 : decode cX9_isAsLogged 17 = .ok (.istore_n 1, 1) := by decide +kernel
theorem dX9_isAsLogged_18 : decode cX9_isAsLogged 18 = .ok (.iload_n 1, 1) := by decide +kernel
theorem dX9_isAsLogged_19 : decode cX9_isAsLogged 19 = .ok (.iconst 2, 1) := by decide +kernel
theorem dX9_isAsLogged_20 : decode cX9_isAsLogged 20 = .ok (.aload_n 0, 1) := by decide +kernel
theorem dX9_isAsLogged_21 : decode cX9_isAsLogged 21 = .ok (.getfield 222, 3) := by decide +kernel
theorem dX9_isAsLogged_24 : decode cX9_isAsLogged 24 = .ok (.imul, 1) := by decide +kernel
theorem dX9_isAsLogged_25 : decode cX9_isAsLogged 25 = .ok (.if_icmp .ge 35, 3) := by decide +kernel
theorem dX9_isAsLogged_28 : decode cX9_isAsLogged 28 = .ok (.iload_n 1, 1) := by decide +kernel
theorem dX9_isAsLogged_29 : decode cX9_isAsLogged 29 = .ok (.bipush 120, 2) := by decide +kernel
theorem dX9_isAsLogged_31 : decode cX9_isAsLogged 31 = .ok (.if_icmp .ge 29, 3) := by decide +kernel
theorem dX9_isAsLogged_34 : decode cX9_isAsLogged 34 = .ok (.aload_n 0, 1) := by decide +kernel
theorem dX9_isAsLogged_35 : decode cX9_isAsLogged 35 = .ok (.getfield 41, 3) := by decide +kernel
theorem dX9_isAsLogged_38 : decode cX9_isAsLogged 38 = .ok (.iload_n 1, 1) := by decide +kernel
theorem dX9_isAsLogged_39 : decode cX9_isAsLogged 39 = .ok (.iaload, 1) := by decide +kernel
theorem dX9_isAsLogged_40 : decode cX9_isAsLogged 40 = .ok (.aload_n 0, 1) := by decide +kernel
theorem dX9_isAsLogged_41 : decode cX9_isAsLogged 41 = .ok (.getfield 35, 3) := by decide +kernel
theorem dX9_isAsLogged_44 : decode cX9_isAsLogged 44 = .ok (.bipush 13, 2) := by decide +kernel
theorem dX9_isAsLogged_46 : decode cX9_isAsLogged 46 = .ok (.iload_n 1, 1) := by decide +kernel
theorem dX9_isAsLogged_47 : decode cX9_isAsLogged 47 = .ok (.iadd, 1) := by decide +kernel
theorem dX9_isAsLogged_48 : decode cX9_isAsLogged 48 = .ok (.iaload, 1) := by decide +kernel
theorem dX9_isAsLogged_49 : decode cX9_isAsLogged 49 = .ok (.if_icmp .eq 5, 3) := by decide +kernel
theorem dX9_isAsLogged_52 : decode cX9_isAsLogged 52 = .ok (.iconst 0, 1) := by decide +kernel
theorem dX9_isAsLogged_53 : decode cX9_isAsLogged 53 = .ok (.ireturn, 1) := by decide +kernel
theorem dX9_isAsLogged_54 : decode cX9_isAsLogged 54 = .ok (.iinc 1 1, 3) := by decide +kernel
theorem dX9_isAsLogged_57 : decode cX9_isAsLogged 57 = .ok (.goto (-39), 3) := by decide +kernel
theorem dX9_isAsLogged_60 : decode cX9_isAsLogged 60 = .ok (.iconst 1, 1) := by decide +kernel
theorem dX9_isAsLogged_61 : decode cX9_isAsLogged 61 = .ok (.ireturn, 1) := by decide +kernel
def fX9_isAsLogged_18  : Nat → PH → Nat → Int32 → Option (Int32 × PH)
  | 0, _, _, _ => none
  | n + 1, g, v0, v1 =>
  (getI g v0 9 20).bind fun x1 =>
  (if ((2 : Int32) * x1) ≤ v1 then (some ((1 : Int32), g)) else
  (if (120 : Int32) ≤ v1 then (some ((1 : Int32), g)) else
  ((getR g v0 9 21).bind fun p5 =>
  ((ldI g p5 0 v1).bind fun x7 =>
  ((getR g v0 9 17).bind fun p9 =>
  ((ldI g p9 0 ((13 : Int32) + v1)).bind fun x11 =>
  (if x7 = x11 then (fX9_isAsLogged_18 n g v0 (v1 + (1 : Int32))) else
  (some ((0 : Int32), g)))))))))
set_option maxHeartbeats 4000000 in
set_option maxRecDepth 100000 in
theorem bX9_isAsLogged_18 {K : HK} {E : HE} {r : Int32} {g' : PH}  (C : VC K E 2 cX9_isAsLogged RX9 (some .boolean))  : ∀ (n : Nat) (g : PH) (v0 : Nat) (v1 : Int32), fX9_isAsLogged_18  n g v0 v1 = some (r, g') → V K E (hRm 0 0 0 0) 2 (hZ K E (some (.int r)) g' 0 0) 0 0 (kS K) g 18 [(0, .ref v0), (1, .int v1)] [] := by
  intro n
  induction n with
  | zero =>
    intro g v0 v1 hf
    rw [fX9_isAsLogged_18] at hf
    cases hf
  | succ n ih =>
    intro g v0 v1 hf
    rw [fX9_isAsLogged_18] at hf
    refine V.iload_n (pc := 18) C dX9_isAsLogged_18 1 rfl ?_
    refine V.iconst (pc := 19) C dX9_isAsLogged_19 (v := (2 : Int32)) (by decide) ?_
    refine V.aload_n (pc := 20) C dX9_isAsLogged_20 0 rfl ?_
    replace hf := ob_some hf
    obtain ⟨x1, h2, hf⟩ := hf
    refine V.getI (pc := 21) C kX9 (k := 20) (by decide) wd_1070 h2 dX9_isAsLogged_21 ?_
    refine V.imul (pc := 24) C dX9_isAsLogged_24 ?_
    refine V.icmp_ge (pc := 25) (t := 60) C dX9_isAsLogged_25 (by decide) (fun c3 => ?_) (fun c3 => ?_)
    · replace hf := ite_t c3 hf
      refine V.iconst (pc := 60) C dX9_isAsLogged_60 (v := (1 : Int32)) (by decide) ?_
      obtain ⟨f1, f2⟩ := fin2 hf
      clear hf
      subst f1
      subst f2
      exact V.zret (pc := 61) C rfl rfl dX9_isAsLogged_61
    replace hf := ite_f c3 hf
    refine V.iload_n (pc := 28) C dX9_isAsLogged_28 1 rfl ?_
    refine V.bipush (pc := 29) C dX9_isAsLogged_29 (v := (120 : Int32)) (by decide) ?_
    refine V.icmp_ge (pc := 31) (t := 60) C dX9_isAsLogged_31 (by decide) (fun c4 => ?_) (fun c4 => ?_)
    · replace hf := ite_t c4 hf
      refine V.iconst (pc := 60) C dX9_isAsLogged_60 (v := (1 : Int32)) (by decide) ?_
      obtain ⟨f1, f2⟩ := fin2 hf
      clear hf
      subst f1
      subst f2
      exact V.zret (pc := 61) C rfl rfl dX9_isAsLogged_61
    replace hf := ite_f c4 hf
    refine V.aload_n (pc := 34) C dX9_isAsLogged_34 0 rfl ?_
    replace hf := ob_some hf
    obtain ⟨p5, h6, hf⟩ := hf
    refine V.getR (pc := 35) C kX9 (k := 21) (by decide) wd_1071 h6 dX9_isAsLogged_35 ?_
    refine V.iload_n (pc := 38) C dX9_isAsLogged_38 1 rfl ?_
    replace hf := ob_some hf
    obtain ⟨x7, h8, hf⟩ := hf
    refine V.iald (pc := 39) C h8 dX9_isAsLogged_39 ?_
    refine V.aload_n (pc := 40) C dX9_isAsLogged_40 0 rfl ?_
    replace hf := ob_some hf
    obtain ⟨p9, h10, hf⟩ := hf
    refine V.getR (pc := 41) C kX9 (k := 17) (by decide) wd_1067 h10 dX9_isAsLogged_41 ?_
    refine V.bipush (pc := 44) C dX9_isAsLogged_44 (v := (13 : Int32)) (by decide) ?_
    refine V.iload_n (pc := 46) C dX9_isAsLogged_46 1 rfl ?_
    refine V.iadd (pc := 47) C dX9_isAsLogged_47 ?_
    replace hf := ob_some hf
    obtain ⟨x11, h12, hf⟩ := hf
    refine V.iald (pc := 48) C h12 dX9_isAsLogged_48 ?_
    refine V.icmp_eq (pc := 49) (t := 54) C dX9_isAsLogged_49 (by decide) (fun c13 => ?_) (fun c13 => ?_)
    · replace hf := ite_t c13 hf
      refine V.iinc (pc := 54) (v := (v1 + (1 : Int32))) (L' := [(1, .int (v1 + (1 : Int32))), (0, .ref v0)]) C dX9_isAsLogged_54 1 rfl rfl (by decide) rfl ?_
      refine V.goto (pc := 57) (t := 18) C dX9_isAsLogged_57 (by decide) ?_
      refine V.sub (L' := [(0, .ref v0), (1, .int (v1 + (1 : Int32)))]) [1, 0] rfl ?_
      exact ih _ _ _ hf
    replace hf := ite_f c13 hf
    refine V.iconst (pc := 52) C dX9_isAsLogged_52 (v := (0 : Int32)) (by decide) ?_
    obtain ⟨f1, f2⟩ := fin2 hf
    clear hf
    subst f1
    subst f2
    exact V.zret (pc := 53) C rfl rfl dX9_isAsLogged_53
def fX9_isAsLogged (g : PH) (a0 : Nat) : Option (Int32 × PH) :=
  okb (isO g a0 9) ((getI g a0 9 20).bind fun x1 =>
  ((getR g a0 9 17).bind fun p3 =>
  ((ldI g p3 0 (12 : Int32)).bind fun x5 =>
  (if x1 = x5 then (fX9_isAsLogged_18 FUEL g a0 (0 : Int32)) else
  (some ((0 : Int32), g))))))
theorem oX9_isAsLogged {g : PH} {a0 : Nat} {q : (Int32 × PH)} (h : fX9_isAsLogged g a0 = some q) : isO g a0 9 = true := by unfold fX9_isAsLogged at h; exact (okb_some h).1
theorem hyX9_isAsLogged : hMet yX9_isAsLogged RX9 cX9_isAsLogged 2 (some .boolean) 0 := ⟨wd_1552, wd_1551, ws_113, wd_7, rfl, by decide +kernel, by decide +kernel, by decide +kernel⟩
set_option maxHeartbeats 4000000 in
set_option maxRecDepth 100000 in
theorem mX9_isAsLogged (l : Launch) (E : HE) (sz : Nat) {g g' : PH} {a0 : Nat} {r : Int32} (hf : fX9_isAsLogged g a0 = some (r, g')) : hM l E yX9_isAsLogged cX9_isAsLogged 2 (some .boolean) 0 0 0 0 sz g [.ref a0] (some (.int r)) g' := by
  refine hM.of (by decide) (Nat.le_of_ble_eq_true rfl) (fun K hl C hin hsz => ?_)
  subst hl
  subst hsz
  have C : VC K E 2 cX9_isAsLogged RX9 (some .boolean) := C
  unfold fX9_isAsLogged at hf
  replace hf := okb_some hf
  obtain ⟨ho, hf⟩ := hf
  refine V.start (L' := [(0, .ref a0)]) rfl ?_
  refine V.aload_n (pc := 0) C dX9_isAsLogged_0 0 rfl ?_
  replace hf := ob_some hf
  obtain ⟨x1, h2, hf⟩ := hf
  refine V.getI (pc := 1) C kX9 (k := 20) (by decide) wd_1070 h2 dX9_isAsLogged_1 ?_
  refine V.aload_n (pc := 4) C dX9_isAsLogged_4 0 rfl ?_
  replace hf := ob_some hf
  obtain ⟨p3, h4, hf⟩ := hf
  refine V.getR (pc := 5) C kX9 (k := 17) (by decide) wd_1067 h4 dX9_isAsLogged_5 ?_
  refine V.bipush (pc := 8) C dX9_isAsLogged_8 (v := (12 : Int32)) (by decide) ?_
  replace hf := ob_some hf
  obtain ⟨x5, h6, hf⟩ := hf
  refine V.iald (pc := 10) C h6 dX9_isAsLogged_10 ?_
  refine V.icmp_eq (pc := 11) (t := 16) C dX9_isAsLogged_11 (by decide) (fun c7 => ?_) (fun c7 => ?_)
  · replace hf := ite_t c7 hf
    refine V.iconst (pc := 16) C dX9_isAsLogged_16 (v := (0 : Int32)) (by decide) ?_
    refine V.istore_n (pc := 17) (L' := [(1, .int (0 : Int32)), (0, .ref a0)]) C dX9_isAsLogged_17 (by decide) rfl ?_
    refine V.sub (L' := [(0, .ref a0), (1, .int (0 : Int32))]) [1, 0] rfl ?_
    exact bX9_isAsLogged_18 C  _ _ _ _ hf
  replace hf := ite_f c7 hf
  refine V.iconst (pc := 14) C dX9_isAsLogged_14 (v := (0 : Int32)) (by decide) ?_
  obtain ⟨f1, f2⟩ := fin2 hf
  clear hf
  subst f1
  subst f2
  exact V.zret (pc := 15) C rfl rfl dX9_isAsLogged_15
theorem dX9_fitsNow_0 : decode cX9_fitsNow 0 = .ok (.iconst 0, 1) := by decide +kernel
theorem dX9_fitsNow_1 : decode cX9_fitsNow 1 = .ok (.istore_n 2, 1) := by decide +kernel
theorem dX9_fitsNow_2 : decode cX9_fitsNow 2 = .ok (.iload_n 2, 1) := by decide +kernel
theorem dX9_fitsNow_3 : decode cX9_fitsNow 3 = .ok (.iconst 1, 1) := by decide +kernel
theorem dX9_fitsNow_4 : decode cX9_fitsNow 4 = .ok (.aload_n 0, 1) := by decide +kernel
theorem dX9_fitsNow_5 : decode cX9_fitsNow 5 = .ok (.getfield 180, 3) := by decide +kernel
theorem dX9_fitsNow_8 : decode cX9_fitsNow 8 = .ok (.ishl, 1) := by decide +kernel
theorem dX9_fitsNow_9 : decode cX9_fitsNow 9 = .ok (.if_icmp .ge 50, 3) := by decide +kernel
theorem dX9_fitsNow_12 : decode cX9_fitsNow 12 = .ok (.aload_n 0, 1) := by decide +kernel
theorem dX9_fitsNow_13 : decode cX9_fitsNow 13 = .ok (.iload_n 1, 1) := by decide +kernel
theorem dX9_fitsNow_14 : decode cX9_fitsNow 14 = .ok (.aload_n 0, 1) := by decide +kernel
theorem dX9_fitsNow_15 : decode cX9_fitsNow 15 = .ok (.getfield 240, 3) := by decide +kernel
theorem dX9_fitsNow_18 : decode cX9_fitsNow 18 = .ok (.aload_n 0, 1) := by decide +kernel
theorem dX9_fitsNow_19 : decode cX9_fitsNow 19 = .ok (.getfield 243, 3) := by decide +kernel
theorem dX9_fitsNow_22 : decode cX9_fitsNow 22 = .ok (.iload_n 2, 1) := by decide +kernel
theorem dX9_fitsNow_23 : decode cX9_fitsNow 23 = .ok (.invokevirtual 249, 3) := by decide +kernel
theorem dX9_fitsNow_26 : decode cX9_fitsNow 26 = .ok (.aload_n 0, 1) := by decide +kernel
theorem dX9_fitsNow_27 : decode cX9_fitsNow 27 = .ok (.aload_n 0, 1) := by decide +kernel
theorem dX9_fitsNow_28 : decode cX9_fitsNow 28 = .ok (.getfield 35, 3) := by decide +kernel
theorem dX9_fitsNow_31 : decode cX9_fitsNow 31 = .ok (.bipush 10, 2) := by decide +kernel
theorem dX9_fitsNow_33 : decode cX9_fitsNow 33 = .ok (.iaload, 1) := by decide +kernel
theorem dX9_fitsNow_34 : decode cX9_fitsNow 34 = .ok (.aload_n 0, 1) := by decide +kernel
theorem dX9_fitsNow_35 : decode cX9_fitsNow 35 = .ok (.getfield 35, 3) := by decide +kernel
theorem dX9_fitsNow_38 : decode cX9_fitsNow 38 = .ok (.bipush 11, 2) := by decide +kernel
theorem dX9_fitsNow_40 : decode cX9_fitsNow 40 = .ok (.iaload, 1) := by decide +kernel
theorem dX9_fitsNow_41 : decode cX9_fitsNow 41 = .ok (.invokevirtual 252, 3) := by decide +kernel
theorem dX9_fitsNow_44 : decode cX9_fitsNow 44 = .ok (.aload_n 0, 1) := by decide +kernel
theorem dX9_fitsNow_45 : decode cX9_fitsNow 45 = .ok (.invokevirtual 361, 3) := by decide +kernel
theorem dX9_fitsNow_48 : decode cX9_fitsNow 48 = .ok (.ifCond .eq 5, 3) := by decide +kernel
theorem dX9_fitsNow_51 : decode cX9_fitsNow 51 = .ok (.iconst 1, 1) := by decide +kernel
theorem dX9_fitsNow_52 : decode cX9_fitsNow 52 = .ok (.ireturn, 1) := by decide +kernel
theorem dX9_fitsNow_53 : decode cX9_fitsNow 53 = .ok (.iinc 2 1, 3) := by decide +kernel
theorem dX9_fitsNow_56 : decode cX9_fitsNow 56 = .ok (.goto (-54), 3) := by decide +kernel
theorem dX9_fitsNow_59 : decode cX9_fitsNow 59 = .ok (.iconst 0, 1) := by decide +kernel
theorem dX9_fitsNow_60 : decode cX9_fitsNow 60 = .ok (.ireturn, 1) := by decide +kernel
def fX9_fitsNow_2  : Nat → PH → Nat → Int32 → Int32 → Option (Int32 × PH)
  | 0, _, _, _, _ => none
  | n + 1, g, v0, v1, v2 =>
  (getI g v0 9 15).bind fun x1 =>
  (if ((1 : Int32) <<< (x1 &&& 31)) ≤ v2 then (some ((0 : Int32), g)) else
  ((getI g v0 9 23).bind fun x4 =>
  ((getI g v0 9 24).bind fun x6 =>
  ((fX9_tries g v0 v1 x4 x6 v2).bind fun q8 =>
  ((getR q8.2 v0 9 17).bind fun p10 =>
  ((ldI q8.2 p10 0 (10 : Int32)).bind fun x12 =>
  ((getR q8.2 v0 9 17).bind fun p14 =>
  ((ldI q8.2 p14 0 (11 : Int32)).bind fun x16 =>
  ((fX9_goesThrough q8.2 v0 x12 x16).bind fun q18 =>
  ((fX9_isAsLogged q18.2 v0).bind fun q20 =>
  (if q20.1 = 0 then (fX9_fitsNow_2 n q20.2 v0 v1 (v2 + (1 : Int32))) else
  (some ((1 : Int32), q20.2)))))))))))))
set_option maxHeartbeats 4000000 in
set_option maxRecDepth 100000 in
theorem bX9_fitsNow_2 {K : HK} {E : HE} {r : Int32} {g' : PH}  (C : VC K E 3 cX9_fitsNow RX9 (some .boolean))  : ∀ (n : Nat) (g : PH) (v0 : Nat) (v1 : Int32) (v2 : Int32), fX9_fitsNow_2  n g v0 v1 v2 = some (r, g') → V K E (hRm 8 192 0 0) 3 (hZ K E (some (.int r)) g' 0 0) 0 0 (kS K) g 2 [(0, .ref v0), (1, .int v1), (2, .int v2)] [] := by
  intro n
  induction n with
  | zero =>
    intro g v0 v1 v2 hf
    rw [fX9_fitsNow_2] at hf
    cases hf
  | succ n ih =>
    intro g v0 v1 v2 hf
    rw [fX9_fitsNow_2] at hf
    refine V.iload_n (pc := 2) C dX9_fitsNow_2 2 rfl ?_
    refine V.iconst (pc := 3) C dX9_fitsNow_3 (v := (1 : Int32)) (by decide) ?_
    refine V.aload_n (pc := 4) C dX9_fitsNow_4 0 rfl ?_
    replace hf := ob_some hf
    obtain ⟨x1, h2, hf⟩ := hf
    refine V.getI (pc := 5) C kX9 (k := 15) (by decide) wd_1065 h2 dX9_fitsNow_5 ?_
    refine V.ishl (pc := 8) C dX9_fitsNow_8 ?_
    refine V.icmp_ge (pc := 9) (t := 59) C dX9_fitsNow_9 (by decide) (fun c3 => ?_) (fun c3 => ?_)
    · replace hf := ite_t c3 hf
      refine V.iconst (pc := 59) C dX9_fitsNow_59 (v := (0 : Int32)) (by decide) ?_
      obtain ⟨f1, f2⟩ := fin2 hf
      clear hf
      subst f1
      subst f2
      exact V.zret (pc := 60) C rfl rfl dX9_fitsNow_60
    replace hf := ite_f c3 hf
    refine V.aload_n (pc := 12) C dX9_fitsNow_12 0 rfl ?_
    refine V.iload_n (pc := 13) C dX9_fitsNow_13 1 rfl ?_
    refine V.aload_n (pc := 14) C dX9_fitsNow_14 0 rfl ?_
    replace hf := ob_some hf
    obtain ⟨x4, h5, hf⟩ := hf
    refine V.getI (pc := 15) C kX9 (k := 23) (by decide) wd_1073 h5 dX9_fitsNow_15 ?_
    refine V.aload_n (pc := 18) C dX9_fitsNow_18 0 rfl ?_
    replace hf := ob_some hf
    obtain ⟨x6, h7, hf⟩ := hf
    refine V.getI (pc := 19) C kX9 (k := 24) (by decide) wd_1074 h7 dX9_fitsNow_19 ?_
    refine V.iload_n (pc := 22) C dX9_fitsNow_22 2 rfl ?_
    replace hf := ob_some hf
    obtain ⟨q8, h9, hf⟩ := hf
    refine V.callV0v (pc := 23) C hyX9_tries wd_1325 (mX9_tries (r := q8.1) (g' := q8.2) K.2.1 E (kS K) h9) rfl rfl rfl (oX9_tries h9) ⟨Nat.le_of_ble_eq_true rfl, Nat.le_of_ble_eq_true rfl⟩ (Nat.le_of_ble_eq_true rfl) dX9_fitsNow_23 ⟨Nat.zero_le _, Nat.zero_le _⟩ rfl ?_
    refine V.aload_n (pc := 26) C dX9_fitsNow_26 0 rfl ?_
    refine V.aload_n (pc := 27) C dX9_fitsNow_27 0 rfl ?_
    replace hf := ob_some hf
    obtain ⟨p10, h11, hf⟩ := hf
    refine V.getR (pc := 28) C kX9 (k := 17) (by decide) wd_1067 h11 dX9_fitsNow_28 ?_
    refine V.bipush (pc := 31) C dX9_fitsNow_31 (v := (10 : Int32)) (by decide) ?_
    replace hf := ob_some hf
    obtain ⟨x12, h13, hf⟩ := hf
    refine V.iald (pc := 33) C h13 dX9_fitsNow_33 ?_
    refine V.aload_n (pc := 34) C dX9_fitsNow_34 0 rfl ?_
    replace hf := ob_some hf
    obtain ⟨p14, h15, hf⟩ := hf
    refine V.getR (pc := 35) C kX9 (k := 17) (by decide) wd_1067 h15 dX9_fitsNow_35 ?_
    refine V.bipush (pc := 38) C dX9_fitsNow_38 (v := (11 : Int32)) (by decide) ?_
    replace hf := ob_some hf
    obtain ⟨x16, h17, hf⟩ := hf
    refine V.iald (pc := 40) C h17 dX9_fitsNow_40 ?_
    replace hf := ob_some hf
    obtain ⟨q18, h19, hf⟩ := hf
    refine V.callV0v (pc := 41) C hyX9_goesThrough wd_1352 (mX9_goesThrough (r := q18.1) (g' := q18.2) K.2.1 E (kS K) h19) rfl rfl rfl (oX9_goesThrough h19) ⟨Nat.le_of_ble_eq_true rfl, Nat.le_of_ble_eq_true rfl⟩ (Nat.le_of_ble_eq_true rfl) dX9_fitsNow_41 ⟨Nat.zero_le _, Nat.zero_le _⟩ rfl ?_
    refine V.aload_n (pc := 44) C dX9_fitsNow_44 0 rfl ?_
    replace hf := ob_some hf
    obtain ⟨q20, h21, hf⟩ := hf
    refine V.callV0i (pc := 45) C hyX9_isAsLogged wd_1549 (mX9_isAsLogged (r := q20.1) (g' := q20.2) K.2.1 E (kS K) h21) rfl rfl rfl (oX9_isAsLogged h21) ⟨Nat.le_of_ble_eq_true rfl, Nat.le_of_ble_eq_true rfl⟩ (Nat.le_of_ble_eq_true rfl) dX9_fitsNow_45 ⟨Nat.zero_le _, Nat.zero_le _⟩ rfl ?_
    refine V.if_eq (pc := 48) (t := 53) C dX9_fitsNow_48 (by decide) (fun c22 => ?_) (fun c22 => ?_)
    · replace hf := ite_t c22 hf
      refine V.iinc (pc := 53) (v := (v2 + (1 : Int32))) (L' := [(2, .int (v2 + (1 : Int32))), (0, .ref v0), (1, .int v1)]) C dX9_fitsNow_53 2 rfl rfl (by decide) rfl ?_
      refine V.goto (pc := 56) (t := 2) C dX9_fitsNow_56 (by decide) ?_
      refine V.sub (L' := [(0, .ref v0), (1, .int v1), (2, .int (v2 + (1 : Int32)))]) [1, 2, 0] rfl ?_
      exact ih _ _ _ _ hf
    replace hf := ite_f c22 hf
    refine V.iconst (pc := 51) C dX9_fitsNow_51 (v := (1 : Int32)) (by decide) ?_
    obtain ⟨f1, f2⟩ := fin2 hf
    clear hf
    subst f1
    subst f2
    exact V.zret (pc := 52) C rfl rfl dX9_fitsNow_52
def fX9_fitsNow (g : PH) (a0 : Nat) (a1 : Int32) : Option (Int32 × PH) :=
  okb (isO g a0 9) (fX9_fitsNow_2 FUEL g a0 a1 (0 : Int32))
theorem oX9_fitsNow {g : PH} {a0 : Nat} {a1 : Int32} {q : (Int32 × PH)} (h : fX9_fitsNow g a0 a1 = some q) : isO g a0 9 = true := by unfold fX9_fitsNow at h; exact (okb_some h).1
theorem hyX9_fitsNow : hMet yX9_fitsNow RX9 cX9_fitsNow 3 (some .boolean) 1 := ⟨wd_1548, wd_1547, ws_112, wd_7, rfl, by decide +kernel, by decide +kernel, by decide +kernel⟩
set_option maxHeartbeats 4000000 in
set_option maxRecDepth 100000 in
theorem mX9_fitsNow (l : Launch) (E : HE) (sz : Nat) {g g' : PH} {a0 : Nat} {a1 : Int32} {r : Int32} (hf : fX9_fitsNow g a0 a1 = some (r, g')) : hM l E yX9_fitsNow cX9_fitsNow 3 (some .boolean) 8 192 0 0 sz g [.ref a0, .int a1] (some (.int r)) g' := by
  refine hM.of (by decide) (Nat.le_of_ble_eq_true rfl) (fun K hl C hin hsz => ?_)
  subst hl
  subst hsz
  have C : VC K E 3 cX9_fitsNow RX9 (some .boolean) := C
  unfold fX9_fitsNow at hf
  replace hf := okb_some hf
  obtain ⟨ho, hf⟩ := hf
  refine V.start (L' := [(0, .ref a0), (1, .int a1)]) rfl ?_
  refine V.iconst (pc := 0) C dX9_fitsNow_0 (v := (0 : Int32)) (by decide) ?_
  refine V.istore_n (pc := 1) (L' := [(2, .int (0 : Int32)), (0, .ref a0), (1, .int a1)]) C dX9_fitsNow_1 (by decide) rfl ?_
  refine V.sub (L' := [(0, .ref a0), (1, .int a1), (2, .int (0 : Int32))]) [1, 2, 0] rfl ?_
  exact bX9_fitsNow_2 C  _ _ _ _ _ hf
theorem dX9_gathersFits_0 : decode cX9_gathersFits 0 = .ok (.aload_n 0, 1) := by decide +kernel
theorem dX9_gathersFits_1 : decode cX9_gathersFits 1 = .ok (.iconst 0, 1) := by decide +kernel
theorem dX9_gathersFits_2 : decode cX9_gathersFits 2 = .ok (.putfield 364, 3) := by decide +kernel
theorem dX9_gathersFits_5 : decode cX9_gathersFits 5 = .ok (.aload_n 0, 1) := by decide +kernel
theorem dX9_gathersFits_6 : decode cX9_gathersFits 6 = .ok (.invokevirtual 270, 3) := by decide +kernel
theorem dX9_gathersFits_9 : decode cX9_gathersFits 9 = .ok (.iconst 0, 1) := by decide +kernel
theorem dX9_gathersFits_10 : decode cX9_gathersFits 10 = .ok (.istore_n 1, 1) := by decide +kernel
theorem dX9_gathersFits_11 : decode cX9_gathersFits 11 = .ok (.iload_n 1, 1) := by decide +kernel
theorem dX9_gathersFits_12 : decode cX9_gathersFits 12 = .ok (.aload_n 0, 1) := by decide +kernel
theorem dX9_gathersFits_13 : decode cX9_gathersFits 13 = .ok (.getfield 119, 3) := by decide +kernel
theorem dX9_gathersFits_16 : decode cX9_gathersFits 16 = .ok (.if_icmp .ge 99, 3) := by decide +kernel
theorem dX9_gathersFits_19 : decode cX9_gathersFits 19 = .ok (.iconst 0, 1) := by decide +kernel
theorem dX9_gathersFits_20 : decode cX9_gathersFits 20 = .ok (.istore_n 2, 1) := by decide +kernel
theorem dX9_gathersFits_21 : decode cX9_gathersFits 21 = .ok (.iload_n 2, 1) := by decide +kernel
theorem dX9_gathersFits_22 : decode cX9_gathersFits 22 = .ok (.aload_n 0, 1) := by decide +kernel
theorem dX9_gathersFits_23 : decode cX9_gathersFits 23 = .ok (.iload_n 1, 1) := by decide +kernel
theorem dX9_gathersFits_24 : decode cX9_gathersFits 24 = .ok (.invokevirtual 260, 3) := by decide +kernel
theorem dX9_gathersFits_27 : decode cX9_gathersFits 27 = .ok (.if_icmp .ge 82, 3) := by decide +kernel
theorem dX9_gathersFits_30 : decode cX9_gathersFits 30 = .ok (.aload_n 0, 1) := by decide +kernel
theorem dX9_gathersFits_31 : decode cX9_gathersFits 31 = .ok (.iload_n 1, 1) := by decide +kernel
theorem dX9_gathersFits_32 : decode cX9_gathersFits 32 = .ok (.iload_n 2, 1) := by decide +kernel
theorem dX9_gathersFits_33 : decode cX9_gathersFits 33 = .ok (.invokevirtual 273, 3) := by decide +kernel
theorem dX9_gathersFits_36 : decode cX9_gathersFits 36 = .ok (.aload_n 0, 1) := by decide +kernel
theorem dX9_gathersFits_37 : decode cX9_gathersFits 37 = .ok (.iload_n 1, 1) := by decide +kernel
theorem dX9_gathersFits_38 : decode cX9_gathersFits 38 = .ok (.invokevirtual 367, 3) := by decide +kernel
theorem dX9_gathersFits_41 : decode cX9_gathersFits 41 = .ok (.ifCond .ne 6, 3) := by decide +kernel
theorem dX9_gathersFits_44 : decode cX9_gathersFits 44 = .ok (.goto 59, 3) := by decide +kernel
theorem dX9_gathersFits_47 : decode cX9_gathersFits 47 = .ok (.aload_n 0, 1) := by decide +kernel
theorem dX9_gathersFits_48 : decode cX9_gathersFits 48 = .ok (.getfield 69, 3) := by decide +kernel
theorem dX9_gathersFits_51 : decode cX9_gathersFits 51 = .ok (.iconst 3, 1) := by decide +kernel
theorem dX9_gathersFits_52 : decode cX9_gathersFits 52 = .ok (.aload_n 0, 1) := by decide +kernel
theorem dX9_gathersFits_53 : decode cX9_gathersFits 53 = .ok (.getfield 364, 3) := by decide +kernel
theorem dX9_gathersFits_56 : decode cX9_gathersFits 56 = .ok (.imul, 1) := by decide +kernel
theorem dX9_gathersFits_57 : decode cX9_gathersFits 57 = .ok (.iload_n 1, 1) := by decide +kernel
theorem dX9_gathersFits_58 : decode cX9_gathersFits 58 = .ok (.iastore, 1) := by decide +kernel
theorem dX9_gathersFits_59 : decode cX9_gathersFits 59 = .ok (.aload_n 0, 1) := by decide +kernel
theorem dX9_gathersFits_60 : decode cX9_gathersFits 60 = .ok (.getfield 69, 3) := by decide +kernel
theorem dX9_gathersFits_63 : decode cX9_gathersFits 63 = .ok (.iconst 3, 1) := by decide +kernel
theorem dX9_gathersFits_64 : decode cX9_gathersFits 64 = .ok (.aload_n 0, 1) := by decide +kernel
theorem dX9_gathersFits_65 : decode cX9_gathersFits 65 = .ok (.getfield 364, 3) := by decide +kernel
theorem dX9_gathersFits_68 : decode cX9_gathersFits 68 = .ok (.imul, 1) := by decide +kernel
theorem dX9_gathersFits_69 : decode cX9_gathersFits 69 = .ok (.iconst 1, 1) := by decide +kernel
theorem dX9_gathersFits_70 : decode cX9_gathersFits 70 = .ok (.iadd, 1) := by decide +kernel
theorem dX9_gathersFits_71 : decode cX9_gathersFits 71 = .ok (.aload_n 0, 1) := by decide +kernel
theorem dX9_gathersFits_72 : decode cX9_gathersFits 72 = .ok (.getfield 240, 3) := by decide +kernel
theorem dX9_gathersFits_75 : decode cX9_gathersFits 75 = .ok (.iastore, 1) := by decide +kernel
theorem dX9_gathersFits_76 : decode cX9_gathersFits 76 = .ok (.aload_n 0, 1) := by decide +kernel
theorem dX9_gathersFits_77 : decode cX9_gathersFits 77 = .ok (.getfield 69, 3) := by decide +kernel
theorem dX9_gathersFits_80 : decode cX9_gathersFits 80 = .ok (.iconst 3, 1) := by decide +kernel
theorem dX9_gathersFits_81 : decode cX9_gathersFits 81 = .ok (.aload_n 0, 1) := by decide +kernel
theorem dX9_gathersFits_82 : decode cX9_gathersFits 82 = .ok (.getfield 364, 3) := by decide +kernel
theorem dX9_gathersFits_85 : decode cX9_gathersFits 85 = .ok (.imul, 1) := by decide +kernel
theorem dX9_gathersFits_86 : decode cX9_gathersFits 86 = .ok (.iconst 2, 1) := by decide +kernel
theorem dX9_gathersFits_87 : decode cX9_gathersFits 87 = .ok (.iadd, 1) := by decide +kernel
theorem dX9_gathersFits_88 : decode cX9_gathersFits 88 = .ok (.aload_n 0, 1) := by decide +kernel
theorem dX9_gathersFits_89 : decode cX9_gathersFits 89 = .ok (.getfield 243, 3) := by decide +kernel
theorem dX9_gathersFits_92 : decode cX9_gathersFits 92 = .ok (.iastore, 1) := by decide +kernel
theorem dX9_gathersFits_93 : decode cX9_gathersFits 93 = .ok (.aload_n 0, 1) := by decide +kernel
theorem dX9_gathersFits_94 : decode cX9_gathersFits 94 = .ok (.dup, 1) := by decide +kernel
theorem dX9_gathersFits_95 : decode cX9_gathersFits 95 = .ok (.getfield 364, 3) := by decide +kernel
theorem dX9_gathersFits_98 : decode cX9_gathersFits 98 = .ok (.iconst 1, 1) := by decide +kernel
theorem dX9_gathersFits_99 : decode cX9_gathersFits 99 = .ok (.iadd, 1) := by decide +kernel
theorem dX9_gathersFits_100 : decode cX9_gathersFits 100 = .ok (.putfield 364, 3) := by decide +kernel
theorem dX9_gathersFits_103 : decode cX9_gathersFits 103 = .ok (.iinc 2 1, 3) := by decide +kernel
theorem dX9_gathersFits_106 : decode cX9_gathersFits 106 = .ok (.goto (-85), 3) := by decide +kernel
theorem dX9_gathersFits_109 : decode cX9_gathersFits 109 = .ok (.iinc 1 1, 3) := by decide +kernel
theorem dX9_gathersFits_112 : decode cX9_gathersFits 112 = .ok (.goto (-101), 3) := by decide +kernel
theorem dX9_gathersFits_115 : decode cX9_gathersFits 115 = .ok (.aload_n 0, 1) := by decide +kernel
theorem dX9_gathersFits_116 : decode cX9_gathersFits 116 = .ok (.invokevirtual 282, 3) := by decide +kernel
theorem dX9_gathersFits_119 : decode cX9_gathersFits 119 = .ok (.return_, 1) := by decide +kernel
def fX9_gathersFits_103 (k11 : PH → Nat → Int32 → Option (Unit × PH)) (k21 : PH → Nat → Int32 → Int32 → Option (Unit × PH)) (g : PH) (v0 : Nat) (v1 : Int32) (v2 : Int32) : Option (Unit × PH) :=
  k21 g v0 v1 (v2 + (1 : Int32))
set_option maxHeartbeats 4000000 in
set_option maxRecDepth 100000 in
theorem bX9_gathersFits_103 {K : HK} {E : HE} {r : Unit} {g' : PH} {k11 : PH → Nat → Int32 → Option (Unit × PH)} {k21 : PH → Nat → Int32 → Int32 → Option (Unit × PH)} (C : VC K E 3 cX9_gathersFits RX9 none) (hk11 : ∀ (g : PH) (v0 : Nat) (v1 : Int32), k11 g v0 v1 = some (r, g') → V K E (hRm 9 214 0 0) 3 (hZ K E none g' 0 0) 0 0 (kS K) g 11 [(0, .ref v0), (1, .int v1)] []) (hk21 : ∀ (g : PH) (v0 : Nat) (v1 : Int32) (v2 : Int32), k21 g v0 v1 v2 = some (r, g') → V K E (hRm 9 214 0 0) 3 (hZ K E none g' 0 0) 0 0 (kS K) g 21 [(0, .ref v0), (1, .int v1), (2, .int v2)] []) {g : PH} {v0 : Nat} {v1 : Int32} {v2 : Int32} (hf : fX9_gathersFits_103 k11 k21 g v0 v1 v2 = some (r, g')) : V K E (hRm 9 214 0 0) 3 (hZ K E none g' 0 0) 0 0 (kS K) g 103 [(0, .ref v0), (1, .int v1), (2, .int v2)] [] := by
  unfold fX9_gathersFits_103 at hf
  refine V.iinc (pc := 103) (v := (v2 + (1 : Int32))) (L' := [(2, .int (v2 + (1 : Int32))), (0, .ref v0), (1, .int v1)]) C dX9_gathersFits_103 2 rfl rfl (by decide) rfl ?_
  refine V.goto (pc := 106) (t := 21) C dX9_gathersFits_106 (by decide) ?_
  refine V.sub (L' := [(0, .ref v0), (1, .int v1), (2, .int (v2 + (1 : Int32)))]) [1, 2, 0] rfl ?_
  exact hk21 _ _ _ _ hf
def fX9_gathersFits_21 (k11 : PH → Nat → Int32 → Option (Unit × PH)) : Nat → PH → Nat → Int32 → Int32 → Option (Unit × PH)
  | 0, _, _, _, _ => none
  | n + 1, g, v0, v1, v2 =>
  (fX9_placements g v0 v1).bind fun q1 =>
  (if q1.1 ≤ v2 then (k11 q1.2 v0 (v1 + (1 : Int32))) else
  ((fX9_laysPlace q1.2 v0 v1 v2).bind fun q4 =>
  ((fX9_fitsNow q4.2 v0 v1).bind fun q6 =>
  (if q6.1 = 0 then (fX9_gathersFits_103 (k11) (fX9_gathersFits_21 k11 n) q6.2 v0 v1 v2) else
  ((getR q6.2 v0 9 35).bind fun p9 =>
  ((getI q6.2 v0 9 36).bind fun x11 =>
  ((stI q6.2 p9 0 ((3 : Int32) * x11) v1).bind fun g13 =>
  ((getR g13 v0 9 35).bind fun p15 =>
  ((getI g13 v0 9 36).bind fun x17 =>
  ((getI g13 v0 9 23).bind fun x19 =>
  ((stI g13 p15 0 (((3 : Int32) * x17) + (1 : Int32)) x19).bind fun g21 =>
  ((getR g21 v0 9 35).bind fun p23 =>
  ((getI g21 v0 9 36).bind fun x25 =>
  ((getI g21 v0 9 24).bind fun x27 =>
  ((stI g21 p23 0 (((3 : Int32) * x25) + (2 : Int32)) x27).bind fun g29 =>
  ((getI g29 v0 9 36).bind fun x31 =>
  ((putV g29 v0 9 36 (.int (x31 + (1 : Int32)))).bind fun g33 =>
  (fX9_gathersFits_103 (k11) (fX9_gathersFits_21 k11 n) g33 v0 v1 v2))))))))))))))))))
set_option maxHeartbeats 4000000 in
set_option maxRecDepth 100000 in
theorem bX9_gathersFits_21 {K : HK} {E : HE} {r : Unit} {g' : PH} {k11 : PH → Nat → Int32 → Option (Unit × PH)} (C : VC K E 3 cX9_gathersFits RX9 none) (hk11 : ∀ (g : PH) (v0 : Nat) (v1 : Int32), k11 g v0 v1 = some (r, g') → V K E (hRm 9 214 0 0) 3 (hZ K E none g' 0 0) 0 0 (kS K) g 11 [(0, .ref v0), (1, .int v1)] []) : ∀ (n : Nat) (g : PH) (v0 : Nat) (v1 : Int32) (v2 : Int32), fX9_gathersFits_21 k11 n g v0 v1 v2 = some (r, g') → V K E (hRm 9 214 0 0) 3 (hZ K E none g' 0 0) 0 0 (kS K) g 21 [(0, .ref v0), (1, .int v1), (2, .int v2)] [] := by
  intro n
  induction n with
  | zero =>
    intro g v0 v1 v2 hf
    rw [fX9_gathersFits_21] at hf
    cases hf
  | succ n ih =>
    intro g v0 v1 v2 hf
    rw [fX9_gathersFits_21] at hf
    refine V.iload_n (pc := 21) C dX9_gathersFits_21 2 rfl ?_
    refine V.aload_n (pc := 22) C dX9_gathersFits_22 0 rfl ?_
    refine V.iload_n (pc := 23) C dX9_gathersFits_23 1 rfl ?_
    replace hf := ob_some hf
    obtain ⟨q1, h2, hf⟩ := hf
    refine V.callV0i (pc := 24) C hyX9_placements wd_1279 (mX9_placements (r := q1.1) (g' := q1.2) K.2.1 E (kS K) h2) rfl rfl rfl (oX9_placements h2) ⟨Nat.le_of_ble_eq_true rfl, Nat.le_of_ble_eq_true rfl⟩ (Nat.le_of_ble_eq_true rfl) dX9_gathersFits_24 ⟨Nat.zero_le _, Nat.zero_le _⟩ rfl ?_
    refine V.icmp_ge (pc := 27) (t := 109) C dX9_gathersFits_27 (by decide) (fun c3 => ?_) (fun c3 => ?_)
    · replace hf := ite_t c3 hf
      refine V.iinc (pc := 109) (v := (v1 + (1 : Int32))) (L' := [(1, .int (v1 + (1 : Int32))), (0, .ref v0), (2, .int v2)]) C dX9_gathersFits_109 1 rfl rfl (by decide) rfl ?_
      refine V.goto (pc := 112) (t := 11) C dX9_gathersFits_112 (by decide) ?_
      refine V.sub (L' := [(0, .ref v0), (1, .int (v1 + (1 : Int32)))]) [1, 0] rfl ?_
      exact hk11 _ _ _ hf
    replace hf := ite_f c3 hf
    refine V.aload_n (pc := 30) C dX9_gathersFits_30 0 rfl ?_
    refine V.iload_n (pc := 31) C dX9_gathersFits_31 1 rfl ?_
    refine V.iload_n (pc := 32) C dX9_gathersFits_32 2 rfl ?_
    replace hf := ob_some hf
    obtain ⟨q4, h5, hf⟩ := hf
    refine V.callV0v (pc := 33) C hyX9_laysPlace wd_1313 (mX9_laysPlace (r := q4.1) (g' := q4.2) K.2.1 E (kS K) h5) rfl rfl rfl (oX9_laysPlace h5) ⟨Nat.le_of_ble_eq_true rfl, Nat.le_of_ble_eq_true rfl⟩ (Nat.le_of_ble_eq_true rfl) dX9_gathersFits_33 ⟨Nat.zero_le _, Nat.zero_le _⟩ rfl ?_
    refine V.aload_n (pc := 36) C dX9_gathersFits_36 0 rfl ?_
    refine V.iload_n (pc := 37) C dX9_gathersFits_37 1 rfl ?_
    replace hf := ob_some hf
    obtain ⟨q6, h7, hf⟩ := hf
    refine V.callV0i (pc := 38) C hyX9_fitsNow wd_1545 (mX9_fitsNow (r := q6.1) (g' := q6.2) K.2.1 E (kS K) h7) rfl rfl rfl (oX9_fitsNow h7) ⟨Nat.le_of_ble_eq_true rfl, Nat.le_of_ble_eq_true rfl⟩ (Nat.le_of_ble_eq_true rfl) dX9_gathersFits_38 ⟨Nat.zero_le _, Nat.zero_le _⟩ rfl ?_
    refine V.if_ne (pc := 41) (t := 47) C dX9_gathersFits_41 (by decide) (fun c8 => ?_) (fun c8 => ?_)
    · replace hf := ite_f c8 hf
      refine V.aload_n (pc := 47) C dX9_gathersFits_47 0 rfl ?_
      replace hf := ob_some hf
      obtain ⟨p9, h10, hf⟩ := hf
      refine V.getR (pc := 48) C kX9 (k := 35) (by decide) wd_1085 h10 dX9_gathersFits_48 ?_
      refine V.iconst (pc := 51) C dX9_gathersFits_51 (v := (3 : Int32)) (by decide) ?_
      refine V.aload_n (pc := 52) C dX9_gathersFits_52 0 rfl ?_
      replace hf := ob_some hf
      obtain ⟨x11, h12, hf⟩ := hf
      refine V.getI (pc := 53) C kX9 (k := 36) (by decide) wd_1086 h12 dX9_gathersFits_53 ?_
      refine V.imul (pc := 56) C dX9_gathersFits_56 ?_
      refine V.iload_n (pc := 57) C dX9_gathersFits_57 1 rfl ?_
      replace hf := ob_some hf
      obtain ⟨g13, h14, hf⟩ := hf
      refine V.iast (pc := 58) C h14 dX9_gathersFits_58 ?_
      refine V.aload_n (pc := 59) C dX9_gathersFits_59 0 rfl ?_
      replace hf := ob_some hf
      obtain ⟨p15, h16, hf⟩ := hf
      refine V.getR (pc := 60) C kX9 (k := 35) (by decide) wd_1085 h16 dX9_gathersFits_60 ?_
      refine V.iconst (pc := 63) C dX9_gathersFits_63 (v := (3 : Int32)) (by decide) ?_
      refine V.aload_n (pc := 64) C dX9_gathersFits_64 0 rfl ?_
      replace hf := ob_some hf
      obtain ⟨x17, h18, hf⟩ := hf
      refine V.getI (pc := 65) C kX9 (k := 36) (by decide) wd_1086 h18 dX9_gathersFits_65 ?_
      refine V.imul (pc := 68) C dX9_gathersFits_68 ?_
      refine V.iconst (pc := 69) C dX9_gathersFits_69 (v := (1 : Int32)) (by decide) ?_
      refine V.iadd (pc := 70) C dX9_gathersFits_70 ?_
      refine V.aload_n (pc := 71) C dX9_gathersFits_71 0 rfl ?_
      replace hf := ob_some hf
      obtain ⟨x19, h20, hf⟩ := hf
      refine V.getI (pc := 72) C kX9 (k := 23) (by decide) wd_1073 h20 dX9_gathersFits_72 ?_
      replace hf := ob_some hf
      obtain ⟨g21, h22, hf⟩ := hf
      refine V.iast (pc := 75) C h22 dX9_gathersFits_75 ?_
      refine V.aload_n (pc := 76) C dX9_gathersFits_76 0 rfl ?_
      replace hf := ob_some hf
      obtain ⟨p23, h24, hf⟩ := hf
      refine V.getR (pc := 77) C kX9 (k := 35) (by decide) wd_1085 h24 dX9_gathersFits_77 ?_
      refine V.iconst (pc := 80) C dX9_gathersFits_80 (v := (3 : Int32)) (by decide) ?_
      refine V.aload_n (pc := 81) C dX9_gathersFits_81 0 rfl ?_
      replace hf := ob_some hf
      obtain ⟨x25, h26, hf⟩ := hf
      refine V.getI (pc := 82) C kX9 (k := 36) (by decide) wd_1086 h26 dX9_gathersFits_82 ?_
      refine V.imul (pc := 85) C dX9_gathersFits_85 ?_
      refine V.iconst (pc := 86) C dX9_gathersFits_86 (v := (2 : Int32)) (by decide) ?_
      refine V.iadd (pc := 87) C dX9_gathersFits_87 ?_
      refine V.aload_n (pc := 88) C dX9_gathersFits_88 0 rfl ?_
      replace hf := ob_some hf
      obtain ⟨x27, h28, hf⟩ := hf
      refine V.getI (pc := 89) C kX9 (k := 24) (by decide) wd_1074 h28 dX9_gathersFits_89 ?_
      replace hf := ob_some hf
      obtain ⟨g29, h30, hf⟩ := hf
      refine V.iast (pc := 92) C h30 dX9_gathersFits_92 ?_
      refine V.aload_n (pc := 93) C dX9_gathersFits_93 0 rfl ?_
      refine V.dup (pc := 94) C dX9_gathersFits_94 rfl ?_
      replace hf := ob_some hf
      obtain ⟨x31, h32, hf⟩ := hf
      refine V.getI (pc := 95) C kX9 (k := 36) (by decide) wd_1086 h32 dX9_gathersFits_95 ?_
      refine V.iconst (pc := 98) C dX9_gathersFits_98 (v := (1 : Int32)) (by decide) ?_
      refine V.iadd (pc := 99) C dX9_gathersFits_99 ?_
      replace hf := ob_some hf
      obtain ⟨g33, h34, hf⟩ := hf
      refine V.putX (pc := 100) C kX9 (k := 36) (by decide) wd_1086 rfl rfl rfl h34 dX9_gathersFits_100 ?_
      refine V.sub (L' := [(0, .ref v0), (1, .int v1), (2, .int v2)]) [0, 1, 2] rfl ?_
      exact bX9_gathersFits_103 C hk11 ih hf
    replace hf := ite_t c8 hf
    refine V.goto (pc := 44) (t := 103) C dX9_gathersFits_44 (by decide) ?_
    refine V.sub (L' := [(0, .ref v0), (1, .int v1), (2, .int v2)]) [0, 1, 2] rfl ?_
    exact bX9_gathersFits_103 C hk11 ih hf
def fX9_gathersFits_11  : Nat → PH → Nat → Int32 → Option (Unit × PH)
  | 0, _, _, _ => none
  | n + 1, g, v0, v1 =>
  (getI g v0 9 7).bind fun x1 =>
  (if x1 ≤ v1 then ((fX9_laysBack g v0).bind fun q4 =>
  (some ((), q4.2))) else
  (fX9_gathersFits_21 (fX9_gathersFits_11 n) FUEL g v0 v1 (0 : Int32)))
set_option maxHeartbeats 4000000 in
set_option maxRecDepth 100000 in
theorem bX9_gathersFits_11 {K : HK} {E : HE} {r : Unit} {g' : PH}  (C : VC K E 3 cX9_gathersFits RX9 none)  : ∀ (n : Nat) (g : PH) (v0 : Nat) (v1 : Int32), fX9_gathersFits_11  n g v0 v1 = some (r, g') → V K E (hRm 9 214 0 0) 3 (hZ K E none g' 0 0) 0 0 (kS K) g 11 [(0, .ref v0), (1, .int v1)] [] := by
  intro n
  induction n with
  | zero =>
    intro g v0 v1 hf
    rw [fX9_gathersFits_11] at hf
    cases hf
  | succ n ih =>
    intro g v0 v1 hf
    rw [fX9_gathersFits_11] at hf
    refine V.iload_n (pc := 11) C dX9_gathersFits_11 1 rfl ?_
    refine V.aload_n (pc := 12) C dX9_gathersFits_12 0 rfl ?_
    replace hf := ob_some hf
    obtain ⟨x1, h2, hf⟩ := hf
    refine V.getI (pc := 13) C kX9 (k := 7) (by decide) wd_1057 h2 dX9_gathersFits_13 ?_
    refine V.icmp_ge (pc := 16) (t := 115) C dX9_gathersFits_16 (by decide) (fun c3 => ?_) (fun c3 => ?_)
    · replace hf := ite_t c3 hf
      refine V.aload_n (pc := 115) C dX9_gathersFits_115 0 rfl ?_
      replace hf := ob_some hf
      obtain ⟨q4, h5, hf⟩ := hf
      refine V.callV0v (pc := 116) C hyX9_laysBack wd_1388 (mX9_laysBack (r := q4.1) (g' := q4.2) K.2.1 E (kS K) h5) rfl rfl rfl (oX9_laysBack h5) ⟨Nat.le_of_ble_eq_true rfl, Nat.le_of_ble_eq_true rfl⟩ (Nat.le_of_ble_eq_true rfl) dX9_gathersFits_116 ⟨Nat.zero_le _, Nat.zero_le _⟩ rfl ?_
      obtain ⟨f1, f2⟩ := fin2 hf
      clear hf
      subst f1
      subst f2
      exact V.vret (pc := 119) C rfl dX9_gathersFits_119
    replace hf := ite_f c3 hf
    refine V.iconst (pc := 19) C dX9_gathersFits_19 (v := (0 : Int32)) (by decide) ?_
    refine V.istore_n (pc := 20) (L' := [(2, .int (0 : Int32)), (0, .ref v0), (1, .int v1)]) C dX9_gathersFits_20 (by decide) rfl ?_
    refine V.sub (L' := [(0, .ref v0), (1, .int v1), (2, .int (0 : Int32))]) [1, 2, 0] rfl ?_
    exact bX9_gathersFits_21 C ih _ _ _ _ _ hf
def fX9_gathersFits (g : PH) (a0 : Nat) : Option (Unit × PH) :=
  okb (isO g a0 9) ((putV g a0 9 36 (.int (0 : Int32))).bind fun g1 =>
  ((fX9_keepsAside g1 a0).bind fun q3 =>
  (fX9_gathersFits_11 FUEL q3.2 a0 (0 : Int32))))
theorem oX9_gathersFits {g : PH} {a0 : Nat} {q : (Unit × PH)} (h : fX9_gathersFits g a0 = some q) : isO g a0 9 = true := by unfold fX9_gathersFits at h; exact (okb_some h).1
theorem hyX9_gathersFits : hMet yX9_gathersFits RX9 cX9_gathersFits 3 none 0 := ⟨wd_1544, wd_1543, ws_111, wd_7, rfl, by decide +kernel, by decide +kernel, by decide +kernel⟩
set_option maxHeartbeats 4000000 in
set_option maxRecDepth 100000 in
theorem mX9_gathersFits (l : Launch) (E : HE) (sz : Nat) {g g' : PH} {a0 : Nat} {r : Unit} (hf : fX9_gathersFits g a0 = some (r, g')) : hM l E yX9_gathersFits cX9_gathersFits 3 none 9 214 0 0 sz g [.ref a0] none g' := by
  refine hM.of (by decide) (Nat.le_of_ble_eq_true rfl) (fun K hl C hin hsz => ?_)
  subst hl
  subst hsz
  have C : VC K E 3 cX9_gathersFits RX9 none := C
  unfold fX9_gathersFits at hf
  replace hf := okb_some hf
  obtain ⟨ho, hf⟩ := hf
  refine V.start (L' := [(0, .ref a0)]) rfl ?_
  refine V.aload_n (pc := 0) C dX9_gathersFits_0 0 rfl ?_
  refine V.iconst (pc := 1) C dX9_gathersFits_1 (v := (0 : Int32)) (by decide) ?_
  replace hf := ob_some hf
  obtain ⟨g1, h2, hf⟩ := hf
  refine V.putX (pc := 2) C kX9 (k := 36) (by decide) wd_1086 rfl rfl rfl h2 dX9_gathersFits_2 ?_
  refine V.aload_n (pc := 5) C dX9_gathersFits_5 0 rfl ?_
  replace hf := ob_some hf
  obtain ⟨q3, h4, hf⟩ := hf
  refine V.callV0v (pc := 6) C hyX9_keepsAside wd_1309 (mX9_keepsAside (r := q3.1) (g' := q3.2) K.2.1 E (kS K) h4) rfl rfl rfl (oX9_keepsAside h4) ⟨Nat.le_of_ble_eq_true rfl, Nat.le_of_ble_eq_true rfl⟩ (Nat.le_of_ble_eq_true rfl) dX9_gathersFits_6 ⟨Nat.zero_le _, Nat.zero_le _⟩ rfl ?_
  refine V.iconst (pc := 9) C dX9_gathersFits_9 (v := (0 : Int32)) (by decide) ?_
  refine V.istore_n (pc := 10) (L' := [(1, .int (0 : Int32)), (0, .ref a0)]) C dX9_gathersFits_10 (by decide) rfl ?_
  refine V.sub (L' := [(0, .ref a0), (1, .int (0 : Int32))]) [1, 0] rfl ?_
  exact bX9_gathersFits_11 C  _ _ _ _ hf
theorem dX9_fits_0 : decode cX9_fits 0 = .ok (.iload_n 1, 1) := by decide +kernel
theorem dX9_fits_1 : decode cX9_fits 1 = .ok (.i2l, 1) := by decide +kernel
theorem dX9_fits_2 : decode cX9_fits 2 = .ok (.lconst 0, 1) := by decide +kernel
theorem dX9_fits_3 : decode cX9_fits 3 = .ok (.ldc2_w 258, 3) := by decide +kernel
theorem dX9_fits_6 : decode cX9_fits 6 = .ok (.invokestatic 86, 3) := by decide +kernel
theorem dX9_fits_9 : decode cX9_fits 9 = .ok (.ifCond .eq 13, 3) := by decide +kernel
theorem dX9_fits_12 : decode cX9_fits 12 = .ok (.aload_n 0, 1) := by decide +kernel
theorem dX9_fits_13 : decode cX9_fits 13 = .ok (.getfield 32, 3) := by decide +kernel
theorem dX9_fits_16 : decode cX9_fits 16 = .ok (.bipush 10, 2) := by decide +kernel
theorem dX9_fits_18 : decode cX9_fits 18 = .ok (.iaload, 1) := by decide +kernel
theorem dX9_fits_19 : decode cX9_fits 19 = .ok (.ifCond .ge 5, 3) := by decide +kernel
theorem dX9_fits_22 : decode cX9_fits 22 = .ok (.iconst (-1), 1) := by decide +kernel
theorem dX9_fits_23 : decode cX9_fits 23 = .ok (.ireturn, 1) := by decide +kernel
theorem dX9_fits_24 : decode cX9_fits 24 = .ok (.aload_n 0, 1) := by decide +kernel
theorem dX9_fits_25 : decode cX9_fits 25 = .ok (.invokevirtual 370, 3) := by decide +kernel
theorem dX9_fits_28 : decode cX9_fits 28 = .ok (.iload_n 1, 1) := by decide +kernel
theorem dX9_fits_29 : decode cX9_fits 29 = .ok (.ifCond .ne 10, 3) := by decide +kernel
theorem dX9_fits_32 : decode cX9_fits 32 = .ok (.aload_n 0, 1) := by decide +kernel
theorem dX9_fits_33 : decode cX9_fits 33 = .ok (.getfield 364, 3) := by decide +kernel
theorem dX9_fits_36 : decode cX9_fits 36 = .ok (.goto 23, 3) := by decide +kernel
theorem dX9_fits_39 : decode cX9_fits 39 = .ok (.aload_n 0, 1) := by decide +kernel
theorem dX9_fits_40 : decode cX9_fits 40 = .ok (.getfield 364, 3) := by decide +kernel
theorem dX9_fits_43 : decode cX9_fits 43 = .ok (.ifCond .ne 8, 3) := by decide +kernel
theorem dX9_fits_46 : decode cX9_fits 46 = .ok (.bipush (-2), 2) := by decide +kernel
theorem dX9_fits_48 : decode cX9_fits 48 = .ok (.goto 11, 3) := by decide +kernel
theorem dX9_fits_51 : decode cX9_fits 51 = .ok (.aload_n 0, 1) := by decide +kernel
theorem dX9_fits_52 : decode cX9_fits 52 = .ok (.getfield 69, 3) := by decide +kernel
theorem dX9_fits_55 : decode cX9_fits 55 = .ok (.iload_n 1, 1) := by decide +kernel
theorem dX9_fits_56 : decode cX9_fits 56 = .ok (.iconst 1, 1) := by decide +kernel
theorem dX9_fits_57 : decode cX9_fits 57 = .ok (.isub, 1) := by decide +kernel
theorem dX9_fits_58 : decode cX9_fits 58 = .ok (.iaload, 1) := by decide +kernel
theorem dX9_fits_59 : decode cX9_fits 59 = .ok (.ireturn, 1) := by decide +kernel
def fX9_fits (g : PH) (a0 : Nat) (a1 : Int32) : Option (Int32 × PH) :=
  okb (isO g a0 9) ((fX9_isIn g a1.toInt64 (0 : Int64) (3 : Int64)).bind fun q1 =>
  (if q1.1 = 0 then (some ((-1 : Int32), q1.2)) else
  ((getR q1.2 a0 9 16).bind fun p4 =>
  ((ldI q1.2 p4 0 (10 : Int32)).bind fun x6 =>
  (if 0 ≤ x6 then ((fX9_gathersFits q1.2 a0).bind fun q9 =>
  (if a1 = 0 then ((getI q9.2 a0 9 36).bind fun x19 =>
  (some (x19, q9.2))) else
  ((getI q9.2 a0 9 36).bind fun x12 =>
  (if x12 = 0 then (some ((-2 : Int32), q9.2)) else
  ((getR q9.2 a0 9 35).bind fun p15 =>
  ((ldI q9.2 p15 0 (a1 - (1 : Int32))).bind fun x17 =>
  (some (x17, q9.2)))))))) else
  (some ((-1 : Int32), q1.2)))))))
theorem oX9_fits {g : PH} {a0 : Nat} {a1 : Int32} {q : (Int32 × PH)} (h : fX9_fits g a0 a1 = some q) : isO g a0 9 = true := by unfold fX9_fits at h; exact (okb_some h).1
theorem hyX9_fits : hMet yX9_fits RX9 cX9_fits 2 (some .int) 1 := ⟨wd_1540, wd_1538, wd_1539, wd_7, rfl, by decide +kernel, by decide +kernel, by decide +kernel⟩
set_option maxHeartbeats 4000000 in
set_option maxRecDepth 100000 in
theorem mX9_fits (l : Launch) (E : HE) (sz : Nat) {g g' : PH} {a0 : Nat} {a1 : Int32} {r : Int32} (hf : fX9_fits g a0 a1 = some (r, g')) : hM l E yX9_fits cX9_fits 2 (some .int) 10 236 0 0 sz g [.ref a0, .int a1] (some (.int r)) g' := by
  refine hM.of (by decide) (Nat.le_of_ble_eq_true rfl) (fun K hl C hin hsz => ?_)
  subst hl
  subst hsz
  have C : VC K E 2 cX9_fits RX9 (some .int) := C
  unfold fX9_fits at hf
  replace hf := okb_some hf
  obtain ⟨ho, hf⟩ := hf
  refine V.start (L' := [(0, .ref a0), (1, .int a1)]) rfl ?_
  refine V.iload_n (pc := 0) C dX9_fits_0 1 rfl ?_
  refine V.i2l (pc := 1) C dX9_fits_1 ?_
  refine V.lconst (pc := 2) C dX9_fits_2 (v := (0 : Int64)) (by decide) ?_
  refine V.ldc2 (pc := 3) C wd_1274 dX9_fits_3 ?_
  replace hf := ob_some hf
  obtain ⟨q1, h2, hf⟩ := hf
  refine V.callS0i (pc := 6) C hyX9_isIn wd_1182 (mX9_isIn (r := q1.1) (g' := q1.2) K.2.1 E (kS K) h2) rfl ⟨Nat.le_of_ble_eq_true rfl, Nat.le_of_ble_eq_true rfl⟩ (Nat.le_of_ble_eq_true rfl) dX9_fits_6 ⟨Nat.zero_le _, Nat.zero_le _⟩ rfl ?_
  refine V.if_eq (pc := 9) (t := 22) C dX9_fits_9 (by decide) (fun c3 => ?_) (fun c3 => ?_)
  · replace hf := ite_t c3 hf
    refine V.iconst (pc := 22) C dX9_fits_22 (v := (-1 : Int32)) (by decide) ?_
    obtain ⟨f1, f2⟩ := fin2 hf
    clear hf
    subst f1
    subst f2
    exact V.iret (pc := 23) C rfl dX9_fits_23
  replace hf := ite_f c3 hf
  refine V.aload_n (pc := 12) C dX9_fits_12 0 rfl ?_
  replace hf := ob_some hf
  obtain ⟨p4, h5, hf⟩ := hf
  refine V.getR (pc := 13) C kX9 (k := 16) (by decide) wd_1066 h5 dX9_fits_13 ?_
  refine V.bipush (pc := 16) C dX9_fits_16 (v := (10 : Int32)) (by decide) ?_
  replace hf := ob_some hf
  obtain ⟨x6, h7, hf⟩ := hf
  refine V.iald (pc := 18) C h7 dX9_fits_18 ?_
  refine V.if_ge (pc := 19) (t := 24) C dX9_fits_19 (by decide) (fun c8 => ?_) (fun c8 => ?_)
  · replace hf := ite_t c8 hf
    refine V.aload_n (pc := 24) C dX9_fits_24 0 rfl ?_
    replace hf := ob_some hf
    obtain ⟨q9, h10, hf⟩ := hf
    refine V.callV0v (pc := 25) C hyX9_gathersFits wd_1541 (mX9_gathersFits (r := q9.1) (g' := q9.2) K.2.1 E (kS K) h10) rfl rfl rfl (oX9_gathersFits h10) ⟨Nat.le_of_ble_eq_true rfl, Nat.le_of_ble_eq_true rfl⟩ (Nat.le_of_ble_eq_true rfl) dX9_fits_25 ⟨Nat.zero_le _, Nat.zero_le _⟩ rfl ?_
    refine V.iload_n (pc := 28) C dX9_fits_28 1 rfl ?_
    refine V.if_ne (pc := 29) (t := 39) C dX9_fits_29 (by decide) (fun c11 => ?_) (fun c11 => ?_)
    · replace hf := ite_f c11 hf
      refine V.aload_n (pc := 39) C dX9_fits_39 0 rfl ?_
      replace hf := ob_some hf
      obtain ⟨x12, h13, hf⟩ := hf
      refine V.getI (pc := 40) C kX9 (k := 36) (by decide) wd_1086 h13 dX9_fits_40 ?_
      refine V.if_ne (pc := 43) (t := 51) C dX9_fits_43 (by decide) (fun c14 => ?_) (fun c14 => ?_)
      · replace hf := ite_f c14 hf
        refine V.aload_n (pc := 51) C dX9_fits_51 0 rfl ?_
        replace hf := ob_some hf
        obtain ⟨p15, h16, hf⟩ := hf
        refine V.getR (pc := 52) C kX9 (k := 35) (by decide) wd_1085 h16 dX9_fits_52 ?_
        refine V.iload_n (pc := 55) C dX9_fits_55 1 rfl ?_
        refine V.iconst (pc := 56) C dX9_fits_56 (v := (1 : Int32)) (by decide) ?_
        refine V.isub (pc := 57) C dX9_fits_57 ?_
        replace hf := ob_some hf
        obtain ⟨x17, h18, hf⟩ := hf
        refine V.iald (pc := 58) C h18 dX9_fits_58 ?_
        obtain ⟨f1, f2⟩ := fin2 hf
        clear hf
        subst f1
        subst f2
        exact V.iret (pc := 59) C rfl dX9_fits_59
      replace hf := ite_t c14 hf
      refine V.bipush (pc := 46) C dX9_fits_46 (v := (-2 : Int32)) (by decide) ?_
      refine V.goto (pc := 48) (t := 59) C dX9_fits_48 (by decide) ?_
      obtain ⟨f1, f2⟩ := fin2 hf
      clear hf
      subst f1
      subst f2
      exact V.iret (pc := 59) C rfl dX9_fits_59
    replace hf := ite_t c11 hf
    refine V.aload_n (pc := 32) C dX9_fits_32 0 rfl ?_
    replace hf := ob_some hf
    obtain ⟨x19, h20, hf⟩ := hf
    refine V.getI (pc := 33) C kX9 (k := 36) (by decide) wd_1086 h20 dX9_fits_33 ?_
    refine V.goto (pc := 36) (t := 59) C dX9_fits_36 (by decide) ?_
    obtain ⟨f1, f2⟩ := fin2 hf
    clear hf
    subst f1
    subst f2
    exact V.iret (pc := 59) C rfl dX9_fits_59
  replace hf := ite_f c8 hf
  refine V.iconst (pc := 22) C dX9_fits_22 (v := (-1 : Int32)) (by decide) ?_
  obtain ⟨f1, f2⟩ := fin2 hf
  clear hf
  subst f1
  subst f2
  exact V.iret (pc := 23) C rfl dX9_fits_23
