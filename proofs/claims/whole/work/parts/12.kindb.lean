theorem dX1_writeOne_0 : decode cX1_writeOne 0 = .ok (.iload_n 3, 1) := by decide +kernel
theorem dX1_writeOne_1 : decode cX1_writeOne 1 = .ok (.iload_n 1, 1) := by decide +kernel
theorem dX1_writeOne_2 : decode cX1_writeOne 2 = .ok (.ishr, 1) := by decide +kernel
theorem dX1_writeOne_3 : decode cX1_writeOne 3 = .ok (.iconst 1, 1) := by decide +kernel
theorem dX1_writeOne_4 : decode cX1_writeOne 4 = .ok (.iand, 1) := by decide +kernel
theorem dX1_writeOne_5 : decode cX1_writeOne 5 = .ok (.istore 4, 2) := by decide +kernel
theorem dX1_writeOne_7 : decode cX1_writeOne 7 = .ok (.iload_n 3, 1) := by decide +kernel
theorem dX1_writeOne_8 : decode cX1_writeOne 8 = .ok (.iconst 1, 1) := by decide +kernel
theorem dX1_writeOne_9 : decode cX1_writeOne 9 = .ok (.iload_n 1, 1) := by decide +kernel
theorem dX1_writeOne_10 : decode cX1_writeOne 10 = .ok (.ishl, 1) := by decide +kernel
theorem dX1_writeOne_11 : decode cX1_writeOne 11 = .ok (.iconst (-1), 1) := by decide +kernel
theorem dX1_writeOne_12 : decode cX1_writeOne 12 = .ok (.ixor, 1) := by decide +kernel
theorem dX1_writeOne_13 : decode cX1_writeOne 13 = .ok (.iand, 1) := by decide +kernel
theorem dX1_writeOne_14 : decode cX1_writeOne 14 = .ok (.iload_n 2, 1) := by decide +kernel
theorem dX1_writeOne_15 : decode cX1_writeOne 15 = .ok (.iload_n 1, 1) := by decide +kernel
theorem dX1_writeOne_16 : decode cX1_writeOne 16 = .ok (.ishl, 1) := by decide +kernel
theorem dX1_writeOne_17 : decode cX1_writeOne 17 = .ok (.ior, 1) := by decide +kernel
theorem dX1_writeOne_18 : decode cX1_writeOne 18 = .ok (.istore 5, 2) := by decide +kernel
theorem dX1_writeOne_20 : decode cX1_writeOne 20 = .ok (.aload_n 0, 1) := by decide +kernel
theorem dX1_writeOne_21 : decode cX1_writeOne 21 = .ok (.iload_n 1, 1) := by decide +kernel
theorem dX1_writeOne_22 : decode cX1_writeOne 22 = .ok (.ifCond .ne 7, 3) := by decide +kernel
theorem dX1_writeOne_25 : decode cX1_writeOne 25 = .ok (.iconst 0, 1) := by decide +kernel
theorem dX1_writeOne_26 : decode cX1_writeOne 26 = .ok (.goto 4, 3) := by decide +kernel
theorem dX1_writeOne_29 : decode cX1_writeOne 29 = .ok (.iconst 1, 1) := by decide +kernel
theorem dX1_writeOne_30 : decode cX1_writeOne 30 = .ok (.iload 4, 2) := by decide +kernel
theorem dX1_writeOne_32 : decode cX1_writeOne 32 = .ok (.iload_n 2, 1) := by decide +kernel
theorem dX1_writeOne_33 : decode cX1_writeOne 33 = .ok (.invokevirtual 107, 3) := by decide +kernel
theorem dX1_writeOne_36 : decode cX1_writeOne 36 = .ok (.istore 6, 2) := by decide +kernel
theorem dX1_writeOne_38 : decode cX1_writeOne 38 = .ok (.aload_n 0, 1) := by decide +kernel
theorem dX1_writeOne_39 : decode cX1_writeOne 39 = .ok (.aload_n 0, 1) := by decide +kernel
theorem dX1_writeOne_40 : decode cX1_writeOne 40 = .ok (.iload 5, 2) := by decide +kernel
theorem dX1_writeOne_42 : decode cX1_writeOne 42 = .ok (.iload 6, 2) := by decide +kernel
theorem dX1_writeOne_44 : decode cX1_writeOne 44 = .ok (.invokevirtual 110, 3) := by decide +kernel
theorem dX1_writeOne_47 : decode cX1_writeOne 47 = .ok (.invokevirtual 84, 3) := by decide +kernel
theorem dX1_writeOne_50 : decode cX1_writeOne 50 = .ok (.ireturn, 1) := by decide +kernel
def fX1_writeOne_30  (g : PH) (v0 : Nat) (v2 : Int32) (v4 : Int32) (v5 : Int32) (s0 : Int32) (s1 : Nat) : Option (Int32 × PH) :=
  (fX1_firstRule g s1 s0 v4 v2).bind fun q1 =>
  ((fX1_affected q1.2 v0 v5 q1.1).bind fun q3 =>
  ((fX1_settle q3.2 v0 q3.1).bind fun q5 =>
  (some (q5.1, q5.2))))
set_option maxHeartbeats 4000000 in
set_option maxRecDepth 100000 in
theorem bX1_writeOne_30 {K : HK} {E : HE} {r : Int32} {g' : PH}  (C : VC K E 7 cX1_writeOne RX1 (some .int))  {g : PH} {v0 : Nat} {v2 : Int32} {v4 : Int32} {v5 : Int32} {s0 : Int32} {s1 : Nat} (hf : fX1_writeOne_30  g v0 v2 v4 v5 s0 s1 = some (r, g')) : V K E (hRm 2 47 0 0) 7 (hZ K E (some (.int r)) g' 0 0) 0 0 (kS K) g 30 [(0, .ref v0), (2, .int v2), (4, .int v4), (5, .int v5)] [.int s0, .ref s1] := by
  unfold fX1_writeOne_30 at hf
  refine V.iload (pc := 30) C dX1_writeOne_30 2 rfl ?_
  refine V.iload_n (pc := 32) C dX1_writeOne_32 1 rfl ?_
  replace hf := ob_some hf
  obtain ⟨q1, h2, hf⟩ := hf
  refine V.callV0i (pc := 33) C hyX1_firstRule wd_411 (mX1_firstRule (r := q1.1) (g' := q1.2) K.2.1 E (kS K) h2) rfl rfl rfl (oX1_firstRule h2) ⟨Nat.le_of_ble_eq_true rfl, Nat.le_of_ble_eq_true rfl⟩ (Nat.le_of_ble_eq_true rfl) dX1_writeOne_33 ⟨Nat.zero_le _, Nat.zero_le _⟩ rfl ?_
  refine V.istore (pc := 36) (L' := [(6, .int q1.1), (0, .ref v0), (2, .int v2), (4, .int v4), (5, .int v5)]) C dX1_writeOne_36 (by decide) rfl ?_
  refine V.aload_n (pc := 38) C dX1_writeOne_38 1 rfl ?_
  refine V.aload_n (pc := 39) C dX1_writeOne_39 1 rfl ?_
  refine V.iload (pc := 40) C dX1_writeOne_40 4 rfl ?_
  refine V.iload (pc := 42) C dX1_writeOne_42 0 rfl ?_
  replace hf := ob_some hf
  obtain ⟨q3, h4, hf⟩ := hf
  refine V.callV0i (pc := 44) C hyX1_affected wd_415 (mX1_affected (r := q3.1) (g' := q3.2) K.2.1 E (kS K) h4) rfl rfl rfl (oX1_affected h4) ⟨Nat.le_of_ble_eq_true rfl, Nat.le_of_ble_eq_true rfl⟩ (Nat.le_of_ble_eq_true rfl) dX1_writeOne_44 ⟨Nat.zero_le _, Nat.zero_le _⟩ rfl ?_
  replace hf := ob_some hf
  obtain ⟨q5, h6, hf⟩ := hf
  refine V.callV0i (pc := 47) C hyX1_settle wd_407 (mX1_settle (r := q5.1) (g' := q5.2) K.2.1 E (kS K) h6) rfl rfl rfl (oX1_settle h6) ⟨Nat.le_of_ble_eq_true rfl, Nat.le_of_ble_eq_true rfl⟩ (Nat.le_of_ble_eq_true rfl) dX1_writeOne_47 ⟨Nat.zero_le _, Nat.zero_le _⟩ rfl ?_
  obtain ⟨f1, f2⟩ := fin2 hf
  clear hf
  subst f1
  subst f2
  exact V.iret (pc := 50) C rfl dX1_writeOne_50
def fX1_writeOne (g : PH) (a0 : Nat) (a1 : Int32) (a2 : Int32) (a3 : Int32) : Option (Int32 × PH) :=
  okb (isO g a0 1) (if a1 = 0 then (fX1_writeOne_30 g a0 a2 ((a3 >>> (a1 &&& 31)) &&& (1 : Int32)) ((a3 &&& (((1 : Int32) <<< (a1 &&& 31)) ^^^ (-1 : Int32))) ||| (a2 <<< (a1 &&& 31))) (0 : Int32) a0) else
  (fX1_writeOne_30 g a0 a2 ((a3 >>> (a1 &&& 31)) &&& (1 : Int32)) ((a3 &&& (((1 : Int32) <<< (a1 &&& 31)) ^^^ (-1 : Int32))) ||| (a2 <<< (a1 &&& 31))) (1 : Int32) a0))
theorem oX1_writeOne {g : PH} {a0 : Nat} {a1 : Int32} {a2 : Int32} {a3 : Int32} {q : (Int32 × PH)} (h : fX1_writeOne g a0 a1 a2 a3 = some q) : isO g a0 1 = true := by unfold fX1_writeOne at h; exact (okb_some h).1
theorem hyX1_writeOne : hMet yX1_writeOne RX1 cX1_writeOne 7 (some .int) 3 := ⟨wd_434, wd_433, ws_10, wd_8, rfl, by decide +kernel, by decide +kernel, by decide +kernel⟩
set_option maxHeartbeats 4000000 in
set_option maxRecDepth 100000 in
theorem mX1_writeOne (l : Launch) (E : HE) (sz : Nat) {g g' : PH} {a0 : Nat} {a1 : Int32} {a2 : Int32} {a3 : Int32} {r : Int32} (hf : fX1_writeOne g a0 a1 a2 a3 = some (r, g')) : hM l E yX1_writeOne cX1_writeOne 7 (some .int) 2 47 0 0 sz g [.ref a0, .int a1, .int a2, .int a3] (some (.int r)) g' := by
  refine hM.of (by decide) (Nat.le_of_ble_eq_true rfl) (fun K hl C hin hsz => ?_)
  subst hl
  subst hsz
  have C : VC K E 7 cX1_writeOne RX1 (some .int) := C
  unfold fX1_writeOne at hf
  replace hf := okb_some hf
  obtain ⟨ho, hf⟩ := hf
  refine V.start (L' := [(0, .ref a0), (1, .int a1), (2, .int a2), (3, .int a3)]) rfl ?_
  refine V.iload_n (pc := 0) C dX1_writeOne_0 3 rfl ?_
  refine V.iload_n (pc := 1) C dX1_writeOne_1 1 rfl ?_
  refine V.ishr (pc := 2) C dX1_writeOne_2 ?_
  refine V.iconst (pc := 3) C dX1_writeOne_3 (v := (1 : Int32)) (by decide) ?_
  refine V.iand (pc := 4) C dX1_writeOne_4 ?_
  refine V.istore (pc := 5) (L' := [(4, .int ((a3 >>> (a1 &&& 31)) &&& (1 : Int32))), (0, .ref a0), (1, .int a1), (2, .int a2), (3, .int a3)]) C dX1_writeOne_5 (by decide) rfl ?_
  refine V.iload_n (pc := 7) C dX1_writeOne_7 4 rfl ?_
  refine V.iconst (pc := 8) C dX1_writeOne_8 (v := (1 : Int32)) (by decide) ?_
  refine V.iload_n (pc := 9) C dX1_writeOne_9 2 rfl ?_
  refine V.ishl (pc := 10) C dX1_writeOne_10 ?_
  refine V.iconst (pc := 11) C dX1_writeOne_11 (v := (-1 : Int32)) (by decide) ?_
  refine V.ixor (pc := 12) C dX1_writeOne_12 ?_
  refine V.iand (pc := 13) C dX1_writeOne_13 ?_
  refine V.iload_n (pc := 14) C dX1_writeOne_14 3 rfl ?_
  refine V.iload_n (pc := 15) C dX1_writeOne_15 2 rfl ?_
  refine V.ishl (pc := 16) C dX1_writeOne_16 ?_
  refine V.ior (pc := 17) C dX1_writeOne_17 ?_
  refine V.istore (pc := 18) (L' := [(5, .int ((a3 &&& (((1 : Int32) <<< (a1 &&& 31)) ^^^ (-1 : Int32))) ||| (a2 <<< (a1 &&& 31)))), (4, .int ((a3 >>> (a1 &&& 31)) &&& (1 : Int32))), (0, .ref a0), (1, .int a1), (2, .int a2), (3, .int a3)]) C dX1_writeOne_18 (by decide) rfl ?_
  refine V.aload_n (pc := 20) C dX1_writeOne_20 2 rfl ?_
  refine V.iload_n (pc := 21) C dX1_writeOne_21 3 rfl ?_
  refine V.if_ne (pc := 22) (t := 29) C dX1_writeOne_22 (by decide) (fun c1 => ?_) (fun c1 => ?_)
  · replace hf := ite_f c1 hf
    refine V.iconst (pc := 29) C dX1_writeOne_29 (v := (1 : Int32)) (by decide) ?_
    refine V.sub (L' := [(0, .ref a0), (2, .int a2), (4, .int ((a3 >>> (a1 &&& 31)) &&& (1 : Int32))), (5, .int ((a3 &&& (((1 : Int32) <<< (a1 &&& 31)) ^^^ (-1 : Int32))) ||| (a2 <<< (a1 &&& 31))))]) [2, 4, 1, 0] rfl ?_
    exact bX1_writeOne_30 C  hf
  replace hf := ite_t c1 hf
  refine V.iconst (pc := 25) C dX1_writeOne_25 (v := (0 : Int32)) (by decide) ?_
  refine V.goto (pc := 26) (t := 30) C dX1_writeOne_26 (by decide) ?_
  refine V.sub (L' := [(0, .ref a0), (2, .int a2), (4, .int ((a3 >>> (a1 &&& 31)) &&& (1 : Int32))), (5, .int ((a3 &&& (((1 : Int32) <<< (a1 &&& 31)) ^^^ (-1 : Int32))) ||| (a2 <<< (a1 &&& 31))))]) [2, 4, 1, 0] rfl ?_
  exact bX1_writeOne_30 C  hf
theorem dX1_operateOne_0 : decode cX1_operateOne 0 = .ok (.iload_n 2, 1) := by decide +kernel
theorem dX1_operateOne_1 : decode cX1_operateOne 1 = .ok (.ifCond .ne 12, 3) := by decide +kernel
theorem dX1_operateOne_4 : decode cX1_operateOne 4 = .ok (.aload_n 0, 1) := by decide +kernel
theorem dX1_operateOne_5 : decode cX1_operateOne 5 = .ok (.iload_n 1, 1) := by decide +kernel
theorem dX1_operateOne_6 : decode cX1_operateOne 6 = .ok (.iload_n 3, 1) := by decide +kernel
theorem dX1_operateOne_7 : decode cX1_operateOne 7 = .ok (.invokevirtual 101, 3) := by decide +kernel
theorem dX1_operateOne_10 : decode cX1_operateOne 10 = .ok (.goto 12, 3) := by decide +kernel
theorem dX1_operateOne_13 : decode cX1_operateOne 13 = .ok (.aload_n 0, 1) := by decide +kernel
theorem dX1_operateOne_14 : decode cX1_operateOne 14 = .ok (.iload_n 1, 1) := by decide +kernel
theorem dX1_operateOne_15 : decode cX1_operateOne 15 = .ok (.iload_n 2, 1) := by decide +kernel
theorem dX1_operateOne_16 : decode cX1_operateOne 16 = .ok (.iconst 1, 1) := by decide +kernel
theorem dX1_operateOne_17 : decode cX1_operateOne 17 = .ok (.isub, 1) := by decide +kernel
theorem dX1_operateOne_18 : decode cX1_operateOne 18 = .ok (.iload_n 3, 1) := by decide +kernel
theorem dX1_operateOne_19 : decode cX1_operateOne 19 = .ok (.invokevirtual 104, 3) := by decide +kernel
theorem dX1_operateOne_22 : decode cX1_operateOne 22 = .ok (.ireturn, 1) := by decide +kernel
def fX1_operateOne (g : PH) (a0 : Nat) (a1 : Int32) (a2 : Int32) (a3 : Int32) : Option (Int32 × PH) :=
  okb (isO g a0 1) (if a2 = 0 then ((fX1_readOne g a0 a1 a3).bind fun q4 =>
  (some (q4.1, q4.2))) else
  ((fX1_writeOne g a0 a1 (a2 - (1 : Int32)) a3).bind fun q2 =>
  (some (q2.1, q2.2))))
theorem oX1_operateOne {g : PH} {a0 : Nat} {a1 : Int32} {a2 : Int32} {a3 : Int32} {q : (Int32 × PH)} (h : fX1_operateOne g a0 a1 a2 a3 = some q) : isO g a0 1 = true := by unfold fX1_operateOne at h; exact (okb_some h).1
theorem hyX1_operateOne : hMet yX1_operateOne RX1 cX1_operateOne 4 (some .int) 3 := ⟨wd_426, wd_425, ws_8, wd_8, rfl, by decide +kernel, by decide +kernel, by decide +kernel⟩
set_option maxHeartbeats 4000000 in
set_option maxRecDepth 100000 in
theorem mX1_operateOne (l : Launch) (E : HE) (sz : Nat) {g g' : PH} {a0 : Nat} {a1 : Int32} {a2 : Int32} {a3 : Int32} {r : Int32} (hf : fX1_operateOne g a0 a1 a2 a3 = some (r, g')) : hM l E yX1_operateOne cX1_operateOne 4 (some .int) 3 73 0 0 sz g [.ref a0, .int a1, .int a2, .int a3] (some (.int r)) g' := by
  refine hM.of (by decide) (Nat.le_of_ble_eq_true rfl) (fun K hl C hin hsz => ?_)
  subst hl
  subst hsz
  have C : VC K E 4 cX1_operateOne RX1 (some .int) := C
  unfold fX1_operateOne at hf
  replace hf := okb_some hf
  obtain ⟨ho, hf⟩ := hf
  refine V.start (L' := [(0, .ref a0), (1, .int a1), (2, .int a2), (3, .int a3)]) rfl ?_
  refine V.iload_n (pc := 0) C dX1_operateOne_0 2 rfl ?_
  refine V.if_ne (pc := 1) (t := 13) C dX1_operateOne_1 (by decide) (fun c1 => ?_) (fun c1 => ?_)
  · replace hf := ite_f c1 hf
    refine V.aload_n (pc := 13) C dX1_operateOne_13 0 rfl ?_
    refine V.iload_n (pc := 14) C dX1_operateOne_14 1 rfl ?_
    refine V.iload_n (pc := 15) C dX1_operateOne_15 2 rfl ?_
    refine V.iconst (pc := 16) C dX1_operateOne_16 (v := (1 : Int32)) (by decide) ?_
    refine V.isub (pc := 17) C dX1_operateOne_17 ?_
    refine V.iload_n (pc := 18) C dX1_operateOne_18 3 rfl ?_
    replace hf := ob_some hf
    obtain ⟨q2, h3, hf⟩ := hf
    refine V.callV0i (pc := 19) C hyX1_writeOne wd_431 (mX1_writeOne (r := q2.1) (g' := q2.2) K.2.1 E (kS K) h3) rfl rfl rfl (oX1_writeOne h3) ⟨Nat.le_of_ble_eq_true rfl, Nat.le_of_ble_eq_true rfl⟩ (Nat.le_of_ble_eq_true rfl) dX1_operateOne_19 ⟨Nat.zero_le _, Nat.zero_le _⟩ rfl ?_
    obtain ⟨f1, f2⟩ := fin2 hf
    clear hf
    subst f1
    subst f2
    exact V.iret (pc := 22) C rfl dX1_operateOne_22
  replace hf := ite_t c1 hf
  refine V.aload_n (pc := 4) C dX1_operateOne_4 0 rfl ?_
  refine V.iload_n (pc := 5) C dX1_operateOne_5 1 rfl ?_
  refine V.iload_n (pc := 6) C dX1_operateOne_6 3 rfl ?_
  replace hf := ob_some hf
  obtain ⟨q4, h5, hf⟩ := hf
  refine V.callV0i (pc := 7) C hyX1_readOne wd_427 (mX1_readOne (r := q4.1) (g' := q4.2) K.2.1 E (kS K) h5) rfl rfl rfl (oX1_readOne h5) ⟨Nat.le_of_ble_eq_true rfl, Nat.le_of_ble_eq_true rfl⟩ (Nat.le_of_ble_eq_true rfl) dX1_operateOne_7 ⟨Nat.zero_le _, Nat.zero_le _⟩ rfl ?_
  refine V.goto (pc := 10) (t := 22) C dX1_operateOne_10 (by decide) ?_
  obtain ⟨f1, f2⟩ := fin2 hf
  clear hf
  subst f1
  subst f2
  exact V.iret (pc := 22) C rfl dX1_operateOne_22
theorem dX1_operate_0 : decode cX1_operate 0 = .ok (.aload_n 0, 1) := by decide +kernel
theorem dX1_operate_1 : decode cX1_operate 1 = .ok (.getfield 19, 3) := by decide +kernel
theorem dX1_operate_4 : decode cX1_operate 4 = .ok (.iconst 0, 1) := by decide +kernel
theorem dX1_operate_5 : decode cX1_operate 5 = .ok (.iaload, 1) := by decide +kernel
theorem dX1_operate_6 : decode cX1_operate 6 = .ok (.iconst 4, 1) := by decide +kernel
theorem dX1_operate_7 : decode cX1_operate 7 = .ok (.if_icmp .ne 26, 3) := by decide +kernel
theorem dX1_operate_10 : decode cX1_operate 10 = .ok (.iload_n 1, 1) := by decide +kernel
theorem dX1_operate_11 : decode cX1_operate 11 = .ok (.ifCond .ne 22, 3) := by decide +kernel
theorem dX1_operate_14 : decode cX1_operate 14 = .ok (.iload_n 2, 1) := by decide +kernel
theorem dX1_operate_15 : decode cX1_operate 15 = .ok (.ifCond .ne 16, 3) := by decide +kernel
theorem dX1_operate_18 : decode cX1_operate 18 = .ok (.iload_n 3, 1) := by decide +kernel
theorem dX1_operate_19 : decode cX1_operate 19 = .ok (.aload_n 0, 1) := by decide +kernel
theorem dX1_operate_20 : decode cX1_operate 20 = .ok (.getfield 29, 3) := by decide +kernel
theorem dX1_operate_23 : decode cX1_operate 23 = .ok (.iconst 0, 1) := by decide +kernel
theorem dX1_operate_24 : decode cX1_operate 24 = .ok (.iaload, 1) := by decide +kernel
theorem dX1_operate_25 : decode cX1_operate 25 = .ok (.iconst 2, 1) := by decide +kernel
theorem dX1_operate_26 : decode cX1_operate 26 = .ok (.ishl, 1) := by decide +kernel
theorem dX1_operate_27 : decode cX1_operate 27 = .ok (.ior, 1) := by decide +kernel
theorem dX1_operate_28 : decode cX1_operate 28 = .ok (.goto 4, 3) := by decide +kernel
theorem dX1_operate_31 : decode cX1_operate 31 = .ok (.iload_n 3, 1) := by decide +kernel
theorem dX1_operate_32 : decode cX1_operate 32 = .ok (.ireturn, 1) := by decide +kernel
theorem dX1_operate_33 : decode cX1_operate 33 = .ok (.aload_n 0, 1) := by decide +kernel
theorem dX1_operate_34 : decode cX1_operate 34 = .ok (.getfield 19, 3) := by decide +kernel
theorem dX1_operate_37 : decode cX1_operate 37 = .ok (.iconst 0, 1) := by decide +kernel
theorem dX1_operate_38 : decode cX1_operate 38 = .ok (.iaload, 1) := by decide +kernel
theorem dX1_operate_39 : decode cX1_operate 39 = .ok (.iconst 5, 1) := by decide +kernel
theorem dX1_operate_40 : decode cX1_operate 40 = .ok (.if_icmp .ne 11, 3) := by decide +kernel
theorem dX1_operate_43 : decode cX1_operate 43 = .ok (.aload_n 0, 1) := by decide +kernel
theorem dX1_operate_44 : decode cX1_operate 44 = .ok (.iconst 0, 1) := by decide +kernel
theorem dX1_operate_45 : decode cX1_operate 45 = .ok (.iload_n 2, 1) := by decide +kernel
theorem dX1_operate_46 : decode cX1_operate 46 = .ok (.iload_n 3, 1) := by decide +kernel
theorem dX1_operate_47 : decode cX1_operate 47 = .ok (.invokevirtual 98, 3) := by decide +kernel
theorem dX1_operate_50 : decode cX1_operate 50 = .ok (.ireturn, 1) := by decide +kernel
theorem dX1_operate_51 : decode cX1_operate 51 = .ok (.aload_n 0, 1) := by decide +kernel
theorem dX1_operate_52 : decode cX1_operate 52 = .ok (.getfield 19, 3) := by decide +kernel
theorem dX1_operate_55 : decode cX1_operate 55 = .ok (.iconst 0, 1) := by decide +kernel
theorem dX1_operate_56 : decode cX1_operate 56 = .ok (.iaload, 1) := by decide +kernel
theorem dX1_operate_57 : decode cX1_operate 57 = .ok (.bipush 6, 2) := by decide +kernel
theorem dX1_operate_59 : decode cX1_operate 59 = .ok (.if_icmp .ne 72, 3) := by decide +kernel
theorem dX1_operate_62 : decode cX1_operate 62 = .ok (.iload_n 1, 1) := by decide +kernel
theorem dX1_operate_63 : decode cX1_operate 63 = .ok (.iconst 1, 1) := by decide +kernel
theorem dX1_operate_64 : decode cX1_operate 64 = .ok (.if_icmp .ne 67, 3) := by decide +kernel
theorem dX1_operate_67 : decode cX1_operate 67 = .ok (.aload_n 0, 1) := by decide +kernel
theorem dX1_operate_68 : decode cX1_operate 68 = .ok (.iconst 1, 1) := by decide +kernel
theorem dX1_operate_69 : decode cX1_operate 69 = .ok (.iload_n 2, 1) := by decide +kernel
theorem dX1_operate_70 : decode cX1_operate 70 = .ok (.iload_n 3, 1) := by decide +kernel
theorem dX1_operate_71 : decode cX1_operate 71 = .ok (.invokevirtual 98, 3) := by decide +kernel
theorem dX1_operate_74 : decode cX1_operate 74 = .ok (.istore 4, 2) := by decide +kernel
theorem dX1_operate_76 : decode cX1_operate 76 = .ok (.aload_n 0, 1) := by decide +kernel
theorem dX1_operate_77 : decode cX1_operate 77 = .ok (.iconst 0, 1) := by decide +kernel
theorem dX1_operate_78 : decode cX1_operate 78 = .ok (.iload_n 2, 1) := by decide +kernel
theorem dX1_operate_79 : decode cX1_operate 79 = .ok (.iload 4, 2) := by decide +kernel
theorem dX1_operate_81 : decode cX1_operate 81 = .ok (.iconst 3, 1) := by decide +kernel
theorem dX1_operate_82 : decode cX1_operate 82 = .ok (.iand, 1) := by decide +kernel
theorem dX1_operate_83 : decode cX1_operate 83 = .ok (.invokevirtual 98, 3) := by decide +kernel
theorem dX1_operate_86 : decode cX1_operate 86 = .ok (.istore 5, 2) := by decide +kernel
theorem dX1_operate_88 : decode cX1_operate 88 = .ok (.iload 4, 2) := by decide +kernel
theorem dX1_operate_90 : decode cX1_operate 90 = .ok (.iload 5, 2) := by decide +kernel
theorem dX1_operate_92 : decode cX1_operate 92 = .ok (.ior, 1) := by decide +kernel
theorem dX1_operate_93 : decode cX1_operate 93 = .ok (.iconst 2, 1) := by decide +kernel
theorem dX1_operate_94 : decode cX1_operate 94 = .ok (.ishr, 1) := by decide +kernel
theorem dX1_operate_95 : decode cX1_operate 95 = .ok (.istore 6, 2) := by decide +kernel
theorem dX1_operate_97 : decode cX1_operate 97 = .ok (.iload 4, 2) := by decide +kernel
theorem dX1_operate_99 : decode cX1_operate 99 = .ok (.iload 5, 2) := by decide +kernel
theorem dX1_operate_101 : decode cX1_operate 101 = .ok (.iand, 1) := by decide +kernel
theorem dX1_operate_102 : decode cX1_operate 102 = .ok (.iconst 2, 1) := by decide +kernel
theorem dX1_operate_103 : decode cX1_operate 103 = .ok (.ishr, 1) := by decide +kernel
theorem dX1_operate_104 : decode cX1_operate 104 = .ok (.istore 7, 2) := by decide +kernel
theorem dX1_operate_106 : decode cX1_operate 106 = .ok (.iload 5, 2) := by decide +kernel
theorem dX1_operate_108 : decode cX1_operate 108 = .ok (.iconst 3, 1) := by decide +kernel
theorem dX1_operate_109 : decode cX1_operate 109 = .ok (.iand, 1) := by decide +kernel
theorem dX1_operate_110 : decode cX1_operate 110 = .ok (.aload_n 0, 1) := by decide +kernel
theorem dX1_operate_111 : decode cX1_operate 111 = .ok (.getfield 29, 3) := by decide +kernel
theorem dX1_operate_114 : decode cX1_operate 114 = .ok (.iconst 0, 1) := by decide +kernel
theorem dX1_operate_115 : decode cX1_operate 115 = .ok (.iaload, 1) := by decide +kernel
theorem dX1_operate_116 : decode cX1_operate 116 = .ok (.iconst 1, 1) := by decide +kernel
theorem dX1_operate_117 : decode cX1_operate 117 = .ok (.if_icmp .ne 8, 3) := by decide +kernel
theorem dX1_operate_120 : decode cX1_operate 120 = .ok (.iload 6, 2) := by decide +kernel
theorem dX1_operate_122 : decode cX1_operate 122 = .ok (.goto 5, 3) := by decide +kernel
theorem dX1_operate_125 : decode cX1_operate 125 = .ok (.iload 7, 2) := by decide +kernel
theorem dX1_operate_127 : decode cX1_operate 127 = .ok (.iconst 2, 1) := by decide +kernel
theorem dX1_operate_128 : decode cX1_operate 128 = .ok (.ishl, 1) := by decide +kernel
theorem dX1_operate_129 : decode cX1_operate 129 = .ok (.ior, 1) := by decide +kernel
theorem dX1_operate_130 : decode cX1_operate 130 = .ok (.ireturn, 1) := by decide +kernel
theorem dX1_operate_131 : decode cX1_operate 131 = .ok (.aload_n 0, 1) := by decide +kernel
theorem dX1_operate_132 : decode cX1_operate 132 = .ok (.iload_n 1, 1) := by decide +kernel
theorem dX1_operate_133 : decode cX1_operate 133 = .ok (.iload_n 2, 1) := by decide +kernel
theorem dX1_operate_134 : decode cX1_operate 134 = .ok (.iload_n 3, 1) := by decide +kernel
theorem dX1_operate_135 : decode cX1_operate 135 = .ok (.invokevirtual 98, 3) := by decide +kernel
theorem dX1_operate_138 : decode cX1_operate 138 = .ok (.ireturn, 1) := by decide +kernel
def fX1_operate_131  (g : PH) (v0 : Nat) (v1 : Int32) (v2 : Int32) (v3 : Int32) : Option (Int32 × PH) :=
  (fX1_operateOne g v0 v1 v2 v3).bind fun q1 =>
  (some (q1.1, q1.2))
set_option maxHeartbeats 4000000 in
set_option maxRecDepth 100000 in
theorem bX1_operate_131 {K : HK} {E : HE} {r : Int32} {g' : PH}  (C : VC K E 8 cX1_operate RX1 (some .int))  {g : PH} {v0 : Nat} {v1 : Int32} {v2 : Int32} {v3 : Int32} (hf : fX1_operate_131  g v0 v1 v2 v3 = some (r, g')) : V K E (hRm 4 96 0 0) 8 (hZ K E (some (.int r)) g' 0 0) 0 0 (kS K) g 131 [(0, .ref v0), (1, .int v1), (2, .int v2), (3, .int v3)] [] := by
  unfold fX1_operate_131 at hf
  refine V.aload_n (pc := 131) C dX1_operate_131 0 rfl ?_
  refine V.iload_n (pc := 132) C dX1_operate_132 1 rfl ?_
  refine V.iload_n (pc := 133) C dX1_operate_133 2 rfl ?_
  refine V.iload_n (pc := 134) C dX1_operate_134 3 rfl ?_
  replace hf := ob_some hf
  obtain ⟨q1, h2, hf⟩ := hf
  refine V.callV0i (pc := 135) C hyX1_operateOne wd_423 (mX1_operateOne (r := q1.1) (g' := q1.2) K.2.1 E (kS K) h2) rfl rfl rfl (oX1_operateOne h2) ⟨Nat.le_of_ble_eq_true rfl, Nat.le_of_ble_eq_true rfl⟩ (Nat.le_of_ble_eq_true rfl) dX1_operate_135 ⟨Nat.zero_le _, Nat.zero_le _⟩ rfl ?_
  obtain ⟨f1, f2⟩ := fin2 hf
  clear hf
  subst f1
  subst f2
  exact V.iret (pc := 138) C rfl dX1_operate_138
def fX1_operate_33  (g : PH) (v0 : Nat) (v1 : Int32) (v2 : Int32) (v3 : Int32) : Option (Int32 × PH) :=
  (getR g v0 1 2).bind fun p1 =>
  ((ldI g p1 0 (0 : Int32)).bind fun x3 =>
  (if x3 = (5 : Int32) then ((fX1_operateOne g v0 (0 : Int32) v2 v3).bind fun q21 =>
  (some (q21.1, q21.2))) else
  ((getR g v0 1 2).bind fun p6 =>
  ((ldI g p6 0 (0 : Int32)).bind fun x8 =>
  (if x8 = (6 : Int32) then (if v1 = (1 : Int32) then ((fX1_operateOne g v0 (1 : Int32) v2 v3).bind fun q12 =>
  ((fX1_operateOne q12.2 v0 (0 : Int32) v2 (q12.1 &&& (3 : Int32))).bind fun q14 =>
  ((getR q14.2 v0 1 5).bind fun p16 =>
  ((ldI q14.2 p16 0 (0 : Int32)).bind fun x18 =>
  (if x18 = (1 : Int32) then (some (((q14.1 &&& (3 : Int32)) ||| (((q12.1 ||| q14.1) >>> ((2 : Int32) &&& 31)) <<< ((2 : Int32) &&& 31))), q14.2)) else
  (some (((q14.1 &&& (3 : Int32)) ||| (((q12.1 &&& q14.1) >>> ((2 : Int32) &&& 31)) <<< ((2 : Int32) &&& 31))), q14.2))))))) else
  (fX1_operate_131 g v0 v1 v2 v3)) else
  (fX1_operate_131 g v0 v1 v2 v3))))))
set_option maxHeartbeats 4000000 in
set_option maxRecDepth 100000 in
theorem bX1_operate_33 {K : HK} {E : HE} {r : Int32} {g' : PH}  (C : VC K E 8 cX1_operate RX1 (some .int))  {g : PH} {v0 : Nat} {v1 : Int32} {v2 : Int32} {v3 : Int32} (hf : fX1_operate_33  g v0 v1 v2 v3 = some (r, g')) : V K E (hRm 4 96 0 0) 8 (hZ K E (some (.int r)) g' 0 0) 0 0 (kS K) g 33 [(0, .ref v0), (1, .int v1), (2, .int v2), (3, .int v3)] [] := by
  unfold fX1_operate_33 at hf
  refine V.aload_n (pc := 33) C dX1_operate_33 0 rfl ?_
  replace hf := ob_some hf
  obtain ⟨p1, h2, hf⟩ := hf
  refine V.getR (pc := 34) C kX1 (k := 2) (by decide) wd_250 h2 dX1_operate_34 ?_
  refine V.iconst (pc := 37) C dX1_operate_37 (v := (0 : Int32)) (by decide) ?_
  replace hf := ob_some hf
  obtain ⟨x3, h4, hf⟩ := hf
  refine V.iald (pc := 38) C h4 dX1_operate_38 ?_
  refine V.iconst (pc := 39) C dX1_operate_39 (v := (5 : Int32)) (by decide) ?_
  refine V.icmp_ne (pc := 40) (t := 51) C dX1_operate_40 (by decide) (fun c5 => ?_) (fun c5 => ?_)
  · replace hf := ite_f c5 hf
    refine V.aload_n (pc := 51) C dX1_operate_51 0 rfl ?_
    replace hf := ob_some hf
    obtain ⟨p6, h7, hf⟩ := hf
    refine V.getR (pc := 52) C kX1 (k := 2) (by decide) wd_250 h7 dX1_operate_52 ?_
    refine V.iconst (pc := 55) C dX1_operate_55 (v := (0 : Int32)) (by decide) ?_
    replace hf := ob_some hf
    obtain ⟨x8, h9, hf⟩ := hf
    refine V.iald (pc := 56) C h9 dX1_operate_56 ?_
    refine V.bipush (pc := 57) C dX1_operate_57 (v := (6 : Int32)) (by decide) ?_
    refine V.icmp_ne (pc := 59) (t := 131) C dX1_operate_59 (by decide) (fun c10 => ?_) (fun c10 => ?_)
    · replace hf := ite_f c10 hf
      refine V.sub (L' := [(0, .ref v0), (1, .int v1), (2, .int v2), (3, .int v3)]) [0, 1, 2, 3] rfl ?_
      exact bX1_operate_131 C  hf
    replace hf := ite_t c10 hf
    refine V.iload_n (pc := 62) C dX1_operate_62 1 rfl ?_
    refine V.iconst (pc := 63) C dX1_operate_63 (v := (1 : Int32)) (by decide) ?_
    refine V.icmp_ne (pc := 64) (t := 131) C dX1_operate_64 (by decide) (fun c11 => ?_) (fun c11 => ?_)
    · replace hf := ite_f c11 hf
      refine V.sub (L' := [(0, .ref v0), (1, .int v1), (2, .int v2), (3, .int v3)]) [0, 1, 2, 3] rfl ?_
      exact bX1_operate_131 C  hf
    replace hf := ite_t c11 hf
    refine V.aload_n (pc := 67) C dX1_operate_67 0 rfl ?_
    refine V.iconst (pc := 68) C dX1_operate_68 (v := (1 : Int32)) (by decide) ?_
    refine V.iload_n (pc := 69) C dX1_operate_69 2 rfl ?_
    refine V.iload_n (pc := 70) C dX1_operate_70 3 rfl ?_
    replace hf := ob_some hf
    obtain ⟨q12, h13, hf⟩ := hf
    refine V.callV0i (pc := 71) C hyX1_operateOne wd_423 (mX1_operateOne (r := q12.1) (g' := q12.2) K.2.1 E (kS K) h13) rfl rfl rfl (oX1_operateOne h13) ⟨Nat.le_of_ble_eq_true rfl, Nat.le_of_ble_eq_true rfl⟩ (Nat.le_of_ble_eq_true rfl) dX1_operate_71 ⟨Nat.zero_le _, Nat.zero_le _⟩ rfl ?_
    refine V.istore (pc := 74) (L' := [(4, .int q12.1), (0, .ref v0), (1, .int v1), (2, .int v2), (3, .int v3)]) C dX1_operate_74 (by decide) rfl ?_
    refine V.aload_n (pc := 76) C dX1_operate_76 1 rfl ?_
    refine V.iconst (pc := 77) C dX1_operate_77 (v := (0 : Int32)) (by decide) ?_
    refine V.iload_n (pc := 78) C dX1_operate_78 3 rfl ?_
    refine V.iload (pc := 79) C dX1_operate_79 0 rfl ?_
    refine V.iconst (pc := 81) C dX1_operate_81 (v := (3 : Int32)) (by decide) ?_
    refine V.iand (pc := 82) C dX1_operate_82 ?_
    replace hf := ob_some hf
    obtain ⟨q14, h15, hf⟩ := hf
    refine V.callV0i (pc := 83) C hyX1_operateOne wd_423 (mX1_operateOne (r := q14.1) (g' := q14.2) K.2.1 E (kS K) h15) rfl rfl rfl (oX1_operateOne h15) ⟨Nat.le_of_ble_eq_true rfl, Nat.le_of_ble_eq_true rfl⟩ (Nat.le_of_ble_eq_true rfl) dX1_operate_83 ⟨Nat.zero_le _, Nat.zero_le _⟩ rfl ?_
    refine V.istore (pc := 86) (L' := [(5, .int q14.1), (4, .int q12.1), (0, .ref v0), (1, .int v1), (2, .int v2), (3, .int v3)]) C dX1_operate_86 (by decide) rfl ?_
    refine V.iload (pc := 88) C dX1_operate_88 1 rfl ?_
    refine V.iload (pc := 90) C dX1_operate_90 0 rfl ?_
    refine V.ior (pc := 92) C dX1_operate_92 ?_
    refine V.iconst (pc := 93) C dX1_operate_93 (v := (2 : Int32)) (by decide) ?_
    refine V.ishr (pc := 94) C dX1_operate_94 ?_
    refine V.istore (pc := 95) (L' := [(6, .int ((q12.1 ||| q14.1) >>> ((2 : Int32) &&& 31))), (5, .int q14.1), (4, .int q12.1), (0, .ref v0), (1, .int v1), (2, .int v2), (3, .int v3)]) C dX1_operate_95 (by decide) rfl ?_
    refine V.iload (pc := 97) C dX1_operate_97 2 rfl ?_
    refine V.iload (pc := 99) C dX1_operate_99 1 rfl ?_
    refine V.iand (pc := 101) C dX1_operate_101 ?_
    refine V.iconst (pc := 102) C dX1_operate_102 (v := (2 : Int32)) (by decide) ?_
    refine V.ishr (pc := 103) C dX1_operate_103 ?_
    refine V.istore (pc := 104) (L' := [(7, .int ((q12.1 &&& q14.1) >>> ((2 : Int32) &&& 31))), (6, .int ((q12.1 ||| q14.1) >>> ((2 : Int32) &&& 31))), (5, .int q14.1), (4, .int q12.1), (0, .ref v0), (1, .int v1), (2, .int v2), (3, .int v3)]) C dX1_operate_104 (by decide) rfl ?_
    refine V.iload (pc := 106) C dX1_operate_106 2 rfl ?_
    refine V.iconst (pc := 108) C dX1_operate_108 (v := (3 : Int32)) (by decide) ?_
    refine V.iand (pc := 109) C dX1_operate_109 ?_
    refine V.aload_n (pc := 110) C dX1_operate_110 4 rfl ?_
    replace hf := ob_some hf
    obtain ⟨p16, h17, hf⟩ := hf
    refine V.getR (pc := 111) C kX1 (k := 5) (by decide) wd_253 h17 dX1_operate_111 ?_
    refine V.iconst (pc := 114) C dX1_operate_114 (v := (0 : Int32)) (by decide) ?_
    replace hf := ob_some hf
    obtain ⟨x18, h19, hf⟩ := hf
    refine V.iald (pc := 115) C h19 dX1_operate_115 ?_
    refine V.iconst (pc := 116) C dX1_operate_116 (v := (1 : Int32)) (by decide) ?_
    refine V.icmp_ne (pc := 117) (t := 125) C dX1_operate_117 (by decide) (fun c20 => ?_) (fun c20 => ?_)
    · replace hf := ite_f c20 hf
      refine V.iload (pc := 125) C dX1_operate_125 0 rfl ?_
      refine V.iconst (pc := 127) C dX1_operate_127 (v := (2 : Int32)) (by decide) ?_
      refine V.ishl (pc := 128) C dX1_operate_128 ?_
      refine V.ior (pc := 129) C dX1_operate_129 ?_
      obtain ⟨f1, f2⟩ := fin2 hf
      clear hf
      subst f1
      subst f2
      exact V.iret (pc := 130) C rfl dX1_operate_130
    replace hf := ite_t c20 hf
    refine V.iload (pc := 120) C dX1_operate_120 1 rfl ?_
    refine V.goto (pc := 122) (t := 127) C dX1_operate_122 (by decide) ?_
    refine V.iconst (pc := 127) C dX1_operate_127 (v := (2 : Int32)) (by decide) ?_
    refine V.ishl (pc := 128) C dX1_operate_128 ?_
    refine V.ior (pc := 129) C dX1_operate_129 ?_
    obtain ⟨f1, f2⟩ := fin2 hf
    clear hf
    subst f1
    subst f2
    exact V.iret (pc := 130) C rfl dX1_operate_130
  replace hf := ite_t c5 hf
  refine V.aload_n (pc := 43) C dX1_operate_43 0 rfl ?_
  refine V.iconst (pc := 44) C dX1_operate_44 (v := (0 : Int32)) (by decide) ?_
  refine V.iload_n (pc := 45) C dX1_operate_45 2 rfl ?_
  refine V.iload_n (pc := 46) C dX1_operate_46 3 rfl ?_
  replace hf := ob_some hf
  obtain ⟨q21, h22, hf⟩ := hf
  refine V.callV0i (pc := 47) C hyX1_operateOne wd_423 (mX1_operateOne (r := q21.1) (g' := q21.2) K.2.1 E (kS K) h22) rfl rfl rfl (oX1_operateOne h22) ⟨Nat.le_of_ble_eq_true rfl, Nat.le_of_ble_eq_true rfl⟩ (Nat.le_of_ble_eq_true rfl) dX1_operate_47 ⟨Nat.zero_le _, Nat.zero_le _⟩ rfl ?_
  obtain ⟨f1, f2⟩ := fin2 hf
  clear hf
  subst f1
  subst f2
  exact V.iret (pc := 50) C rfl dX1_operate_50
def fX1_operate (g : PH) (a0 : Nat) (a1 : Int32) (a2 : Int32) (a3 : Int32) : Option (Int32 × PH) :=
  okb (isO g a0 1) ((getR g a0 1 2).bind fun p1 =>
  ((ldI g p1 0 (0 : Int32)).bind fun x3 =>
  (if x3 = (4 : Int32) then (if a1 = 0 then (if a2 = 0 then ((getR g a0 1 5).bind fun p8 =>
  ((ldI g p8 0 (0 : Int32)).bind fun x10 =>
  (some ((a3 ||| (x10 <<< ((2 : Int32) &&& 31))), g)))) else
  (some (a3, g))) else
  (fX1_operate_33 g a0 a1 a2 a3)) else
  (fX1_operate_33 g a0 a1 a2 a3))))
theorem oX1_operate {g : PH} {a0 : Nat} {a1 : Int32} {a2 : Int32} {a3 : Int32} {q : (Int32 × PH)} (h : fX1_operate g a0 a1 a2 a3 = some q) : isO g a0 1 = true := by unfold fX1_operate at h; exact (okb_some h).1
theorem hyX1_operate : hMet yX1_operate RX1 cX1_operate 8 (some .int) 3 := ⟨wd_422, wd_421, ws_7, wd_8, rfl, by decide +kernel, by decide +kernel, by decide +kernel⟩
set_option maxHeartbeats 4000000 in
set_option maxRecDepth 100000 in
theorem mX1_operate (l : Launch) (E : HE) (sz : Nat) {g g' : PH} {a0 : Nat} {a1 : Int32} {a2 : Int32} {a3 : Int32} {r : Int32} (hf : fX1_operate g a0 a1 a2 a3 = some (r, g')) : hM l E yX1_operate cX1_operate 8 (some .int) 4 96 0 0 sz g [.ref a0, .int a1, .int a2, .int a3] (some (.int r)) g' := by
  refine hM.of (by decide) (Nat.le_of_ble_eq_true rfl) (fun K hl C hin hsz => ?_)
  subst hl
  subst hsz
  have C : VC K E 8 cX1_operate RX1 (some .int) := C
  unfold fX1_operate at hf
  replace hf := okb_some hf
  obtain ⟨ho, hf⟩ := hf
  refine V.start (L' := [(0, .ref a0), (1, .int a1), (2, .int a2), (3, .int a3)]) rfl ?_
  refine V.aload_n (pc := 0) C dX1_operate_0 0 rfl ?_
  replace hf := ob_some hf
  obtain ⟨p1, h2, hf⟩ := hf
  refine V.getR (pc := 1) C kX1 (k := 2) (by decide) wd_250 h2 dX1_operate_1 ?_
  refine V.iconst (pc := 4) C dX1_operate_4 (v := (0 : Int32)) (by decide) ?_
  replace hf := ob_some hf
  obtain ⟨x3, h4, hf⟩ := hf
  refine V.iald (pc := 5) C h4 dX1_operate_5 ?_
  refine V.iconst (pc := 6) C dX1_operate_6 (v := (4 : Int32)) (by decide) ?_
  refine V.icmp_ne (pc := 7) (t := 33) C dX1_operate_7 (by decide) (fun c5 => ?_) (fun c5 => ?_)
  · replace hf := ite_f c5 hf
    refine V.sub (L' := [(0, .ref a0), (1, .int a1), (2, .int a2), (3, .int a3)]) [0, 1, 2, 3] rfl ?_
    exact bX1_operate_33 C  hf
  replace hf := ite_t c5 hf
  refine V.iload_n (pc := 10) C dX1_operate_10 1 rfl ?_
  refine V.if_ne (pc := 11) (t := 33) C dX1_operate_11 (by decide) (fun c6 => ?_) (fun c6 => ?_)
  · replace hf := ite_f c6 hf
    refine V.sub (L' := [(0, .ref a0), (1, .int a1), (2, .int a2), (3, .int a3)]) [0, 1, 2, 3] rfl ?_
    exact bX1_operate_33 C  hf
  replace hf := ite_t c6 hf
  refine V.iload_n (pc := 14) C dX1_operate_14 2 rfl ?_
  refine V.if_ne (pc := 15) (t := 31) C dX1_operate_15 (by decide) (fun c7 => ?_) (fun c7 => ?_)
  · replace hf := ite_f c7 hf
    refine V.iload_n (pc := 31) C dX1_operate_31 3 rfl ?_
    obtain ⟨f1, f2⟩ := fin2 hf
    clear hf
    subst f1
    subst f2
    exact V.iret (pc := 32) C rfl dX1_operate_32
  replace hf := ite_t c7 hf
  refine V.iload_n (pc := 18) C dX1_operate_18 3 rfl ?_
  refine V.aload_n (pc := 19) C dX1_operate_19 0 rfl ?_
  replace hf := ob_some hf
  obtain ⟨p8, h9, hf⟩ := hf
  refine V.getR (pc := 20) C kX1 (k := 5) (by decide) wd_253 h9 dX1_operate_20 ?_
  refine V.iconst (pc := 23) C dX1_operate_23 (v := (0 : Int32)) (by decide) ?_
  replace hf := ob_some hf
  obtain ⟨x10, h11, hf⟩ := hf
  refine V.iald (pc := 24) C h11 dX1_operate_24 ?_
  refine V.iconst (pc := 25) C dX1_operate_25 (v := (2 : Int32)) (by decide) ?_
  refine V.ishl (pc := 26) C dX1_operate_26 ?_
  refine V.ior (pc := 27) C dX1_operate_27 ?_
  refine V.goto (pc := 28) (t := 32) C dX1_operate_28 (by decide) ?_
  obtain ⟨f1, f2⟩ := fin2 hf
  clear hf
  subst f1
  subst f2
  exact V.iret (pc := 32) C rfl dX1_operate_32
theorem dX1_prepare_0 : decode cX1_prepare 0 = .ok (.iconst 0, 1) := by decide +kernel
theorem dX1_prepare_1 : decode cX1_prepare 1 = .ok (.istore_n 1, 1) := by decide +kernel
theorem dX1_prepare_2 : decode cX1_prepare 2 = .ok (.iload_n 1, 1) := by decide +kernel
theorem dX1_prepare_3 : decode cX1_prepare 3 = .ok (.iconst 4, 1) := by decide +kernel
theorem dX1_prepare_4 : decode cX1_prepare 4 = .ok (.if_icmp .ge 70, 3) := by decide +kernel
theorem dX1_prepare_7 : decode cX1_prepare 7 = .ok (.aload_n 0, 1) := by decide +kernel
theorem dX1_prepare_8 : decode cX1_prepare 8 = .ok (.getfield 38, 3) := by decide +kernel
theorem dX1_prepare_11 : decode cX1_prepare 11 = .ok (.iload_n 1, 1) := by decide +kernel
theorem dX1_prepare_12 : decode cX1_prepare 12 = .ok (.aload_n 0, 1) := by decide +kernel
theorem dX1_prepare_13 : decode cX1_prepare 13 = .ok (.iload_n 1, 1) := by decide +kernel
theorem dX1_prepare_14 : decode cX1_prepare 14 = .ok (.invokevirtual 84, 3) := by decide +kernel
theorem dX1_prepare_17 : decode cX1_prepare 17 = .ok (.iastore, 1) := by decide +kernel
theorem dX1_prepare_18 : decode cX1_prepare 18 = .ok (.iconst 0, 1) := by decide +kernel
theorem dX1_prepare_19 : decode cX1_prepare 19 = .ok (.istore_n 2, 1) := by decide +kernel
theorem dX1_prepare_20 : decode cX1_prepare 20 = .ok (.iload_n 2, 1) := by decide +kernel
theorem dX1_prepare_21 : decode cX1_prepare 21 = .ok (.iconst 3, 1) := by decide +kernel
theorem dX1_prepare_22 : decode cX1_prepare 22 = .ok (.if_icmp .ge 46, 3) := by decide +kernel
theorem dX1_prepare_25 : decode cX1_prepare 25 = .ok (.aload_n 0, 1) := by decide +kernel
theorem dX1_prepare_26 : decode cX1_prepare 26 = .ok (.getfield 35, 3) := by decide +kernel
theorem dX1_prepare_29 : decode cX1_prepare 29 = .ok (.iload_n 2, 1) := by decide +kernel
theorem dX1_prepare_30 : decode cX1_prepare 30 = .ok (.iconst 4, 1) := by decide +kernel
theorem dX1_prepare_31 : decode cX1_prepare 31 = .ok (.imul, 1) := by decide +kernel
theorem dX1_prepare_32 : decode cX1_prepare 32 = .ok (.iload_n 1, 1) := by decide +kernel
theorem dX1_prepare_33 : decode cX1_prepare 33 = .ok (.iadd, 1) := by decide +kernel
theorem dX1_prepare_34 : decode cX1_prepare 34 = .ok (.aload_n 0, 1) := by decide +kernel
theorem dX1_prepare_35 : decode cX1_prepare 35 = .ok (.iconst 0, 1) := by decide +kernel
theorem dX1_prepare_36 : decode cX1_prepare 36 = .ok (.iload_n 2, 1) := by decide +kernel
theorem dX1_prepare_37 : decode cX1_prepare 37 = .ok (.iload_n 1, 1) := by decide +kernel
theorem dX1_prepare_38 : decode cX1_prepare 38 = .ok (.invokevirtual 88, 3) := by decide +kernel
theorem dX1_prepare_41 : decode cX1_prepare 41 = .ok (.iastore, 1) := by decide +kernel
theorem dX1_prepare_42 : decode cX1_prepare 42 = .ok (.aload_n 0, 1) := by decide +kernel
theorem dX1_prepare_43 : decode cX1_prepare 43 = .ok (.getfield 35, 3) := by decide +kernel
theorem dX1_prepare_46 : decode cX1_prepare 46 = .ok (.bipush 12, 2) := by decide +kernel
theorem dX1_prepare_48 : decode cX1_prepare 48 = .ok (.iload_n 2, 1) := by decide +kernel
theorem dX1_prepare_49 : decode cX1_prepare 49 = .ok (.iconst 4, 1) := by decide +kernel
theorem dX1_prepare_50 : decode cX1_prepare 50 = .ok (.imul, 1) := by decide +kernel
theorem dX1_prepare_51 : decode cX1_prepare 51 = .ok (.iadd, 1) := by decide +kernel
theorem dX1_prepare_52 : decode cX1_prepare 52 = .ok (.iload_n 1, 1) := by decide +kernel
theorem dX1_prepare_53 : decode cX1_prepare 53 = .ok (.iadd, 1) := by decide +kernel
theorem dX1_prepare_54 : decode cX1_prepare 54 = .ok (.aload_n 0, 1) := by decide +kernel
theorem dX1_prepare_55 : decode cX1_prepare 55 = .ok (.iconst 1, 1) := by decide +kernel
theorem dX1_prepare_56 : decode cX1_prepare 56 = .ok (.iload_n 2, 1) := by decide +kernel
theorem dX1_prepare_57 : decode cX1_prepare 57 = .ok (.iload_n 1, 1) := by decide +kernel
theorem dX1_prepare_58 : decode cX1_prepare 58 = .ok (.invokevirtual 88, 3) := by decide +kernel
theorem dX1_prepare_61 : decode cX1_prepare 61 = .ok (.iastore, 1) := by decide +kernel
theorem dX1_prepare_62 : decode cX1_prepare 62 = .ok (.iinc 2 1, 3) := by decide +kernel
theorem dX1_prepare_65 : decode cX1_prepare 65 = .ok (.goto (-45), 3) := by decide +kernel
theorem dX1_prepare_68 : decode cX1_prepare 68 = .ok (.iinc 1 1, 3) := by decide +kernel
theorem dX1_prepare_71 : decode cX1_prepare 71 = .ok (.goto (-69), 3) := by decide +kernel
theorem dX1_prepare_74 : decode cX1_prepare 74 = .ok (.return_, 1) := by decide +kernel
def fX1_prepare_20 (k2 : PH → Nat → Int32 → Option (Unit × PH)) : Nat → PH → Nat → Int32 → Int32 → Option (Unit × PH)
  | 0, _, _, _, _ => none
  | n + 1, g, v0, v1, v2 =>
  if (3 : Int32) ≤ v2 then (k2 g v0 (v1 + (1 : Int32))) else
  ((getR g v0 1 7).bind fun p2 =>
  ((fX1_operate g v0 (0 : Int32) v2 v1).bind fun q4 =>
  ((stI q4.2 p2 0 ((v2 * (4 : Int32)) + v1) q4.1).bind fun g6 =>
  ((getR g6 v0 1 7).bind fun p8 =>
  ((fX1_operate g6 v0 (1 : Int32) v2 v1).bind fun q10 =>
  ((stI q10.2 p8 0 (((12 : Int32) + (v2 * (4 : Int32))) + v1) q10.1).bind fun g12 =>
  (fX1_prepare_20 k2 n g12 v0 v1 (v2 + (1 : Int32)))))))))
set_option maxHeartbeats 4000000 in
set_option maxRecDepth 100000 in
theorem bX1_prepare_20 {K : HK} {E : HE} {r : Unit} {g' : PH} {k2 : PH → Nat → Int32 → Option (Unit × PH)} (C : VC K E 3 cX1_prepare RX1 none) (hk2 : ∀ (g : PH) (v0 : Nat) (v1 : Int32), k2 g v0 v1 = some (r, g') → V K E (hRm 5 123 0 0) 3 (hZ K E none g' 0 0) 0 0 (kS K) g 2 [(0, .ref v0), (1, .int v1)] []) : ∀ (n : Nat) (g : PH) (v0 : Nat) (v1 : Int32) (v2 : Int32), fX1_prepare_20 k2 n g v0 v1 v2 = some (r, g') → V K E (hRm 5 123 0 0) 3 (hZ K E none g' 0 0) 0 0 (kS K) g 20 [(0, .ref v0), (1, .int v1), (2, .int v2)] [] := by
  intro n
  induction n with
  | zero =>
    intro g v0 v1 v2 hf
    rw [fX1_prepare_20] at hf
    cases hf
  | succ n ih =>
    intro g v0 v1 v2 hf
    rw [fX1_prepare_20] at hf
    refine V.iload_n (pc := 20) C dX1_prepare_20 2 rfl ?_
    refine V.iconst (pc := 21) C dX1_prepare_21 (v := (3 : Int32)) (by decide) ?_
    refine V.icmp_ge (pc := 22) (t := 68) C dX1_prepare_22 (by decide) (fun c1 => ?_) (fun c1 => ?_)
    · replace hf := ite_t c1 hf
      refine V.iinc (pc := 68) (v := (v1 + (1 : Int32))) (L' := [(1, .int (v1 + (1 : Int32))), (0, .ref v0), (2, .int v2)]) C dX1_prepare_68 1 rfl rfl (by decide) rfl ?_
      refine V.goto (pc := 71) (t := 2) C dX1_prepare_71 (by decide) ?_
      refine V.sub (L' := [(0, .ref v0), (1, .int (v1 + (1 : Int32)))]) [1, 0] rfl ?_
      exact hk2 _ _ _ hf
    replace hf := ite_f c1 hf
    refine V.aload_n (pc := 25) C dX1_prepare_25 0 rfl ?_
    replace hf := ob_some hf
    obtain ⟨p2, h3, hf⟩ := hf
    refine V.getR (pc := 26) C kX1 (k := 7) (by decide) wd_255 h3 dX1_prepare_26 ?_
    refine V.iload_n (pc := 29) C dX1_prepare_29 2 rfl ?_
    refine V.iconst (pc := 30) C dX1_prepare_30 (v := (4 : Int32)) (by decide) ?_
    refine V.imul (pc := 31) C dX1_prepare_31 ?_
    refine V.iload_n (pc := 32) C dX1_prepare_32 1 rfl ?_
    refine V.iadd (pc := 33) C dX1_prepare_33 ?_
    refine V.aload_n (pc := 34) C dX1_prepare_34 0 rfl ?_
    refine V.iconst (pc := 35) C dX1_prepare_35 (v := (0 : Int32)) (by decide) ?_
    refine V.iload_n (pc := 36) C dX1_prepare_36 2 rfl ?_
    refine V.iload_n (pc := 37) C dX1_prepare_37 1 rfl ?_
    replace hf := ob_some hf
    obtain ⟨q4, h5, hf⟩ := hf
    refine V.callV0i (pc := 38) C hyX1_operate wd_419 (mX1_operate (r := q4.1) (g' := q4.2) K.2.1 E (kS K) h5) rfl rfl rfl (oX1_operate h5) ⟨Nat.le_of_ble_eq_true rfl, Nat.le_of_ble_eq_true rfl⟩ (Nat.le_of_ble_eq_true rfl) dX1_prepare_38 ⟨Nat.zero_le _, Nat.zero_le _⟩ rfl ?_
    replace hf := ob_some hf
    obtain ⟨g6, h7, hf⟩ := hf
    refine V.iast (pc := 41) C h7 dX1_prepare_41 ?_
    refine V.aload_n (pc := 42) C dX1_prepare_42 0 rfl ?_
    replace hf := ob_some hf
    obtain ⟨p8, h9, hf⟩ := hf
    refine V.getR (pc := 43) C kX1 (k := 7) (by decide) wd_255 h9 dX1_prepare_43 ?_
    refine V.bipush (pc := 46) C dX1_prepare_46 (v := (12 : Int32)) (by decide) ?_
    refine V.iload_n (pc := 48) C dX1_prepare_48 2 rfl ?_
    refine V.iconst (pc := 49) C dX1_prepare_49 (v := (4 : Int32)) (by decide) ?_
    refine V.imul (pc := 50) C dX1_prepare_50 ?_
    refine V.iadd (pc := 51) C dX1_prepare_51 ?_
    refine V.iload_n (pc := 52) C dX1_prepare_52 1 rfl ?_
    refine V.iadd (pc := 53) C dX1_prepare_53 ?_
    refine V.aload_n (pc := 54) C dX1_prepare_54 0 rfl ?_
    refine V.iconst (pc := 55) C dX1_prepare_55 (v := (1 : Int32)) (by decide) ?_
    refine V.iload_n (pc := 56) C dX1_prepare_56 2 rfl ?_
    refine V.iload_n (pc := 57) C dX1_prepare_57 1 rfl ?_
    replace hf := ob_some hf
    obtain ⟨q10, h11, hf⟩ := hf
    refine V.callV0i (pc := 58) C hyX1_operate wd_419 (mX1_operate (r := q10.1) (g' := q10.2) K.2.1 E (kS K) h11) rfl rfl rfl (oX1_operate h11) ⟨Nat.le_of_ble_eq_true rfl, Nat.le_of_ble_eq_true rfl⟩ (Nat.le_of_ble_eq_true rfl) dX1_prepare_58 ⟨Nat.zero_le _, Nat.zero_le _⟩ rfl ?_
    replace hf := ob_some hf
    obtain ⟨g12, h13, hf⟩ := hf
    refine V.iast (pc := 61) C h13 dX1_prepare_61 ?_
    refine V.iinc (pc := 62) (v := (v2 + (1 : Int32))) (L' := [(2, .int (v2 + (1 : Int32))), (0, .ref v0), (1, .int v1)]) C dX1_prepare_62 2 rfl rfl (by decide) rfl ?_
    refine V.goto (pc := 65) (t := 20) C dX1_prepare_65 (by decide) ?_
    refine V.sub (L' := [(0, .ref v0), (1, .int v1), (2, .int (v2 + (1 : Int32)))]) [1, 2, 0] rfl ?_
    exact ih _ _ _ _ hf
def fX1_prepare_2  : Nat → PH → Nat → Int32 → Option (Unit × PH)
  | 0, _, _, _ => none
  | n + 1, g, v0, v1 =>
  if (4 : Int32) ≤ v1 then (some ((), g)) else
  ((getR g v0 1 8).bind fun p2 =>
  ((fX1_settle g v0 v1).bind fun q4 =>
  ((stI q4.2 p2 0 v1 q4.1).bind fun g6 =>
  (fX1_prepare_20 (fX1_prepare_2 n) FUEL g6 v0 v1 (0 : Int32)))))
set_option maxHeartbeats 4000000 in
set_option maxRecDepth 100000 in
theorem bX1_prepare_2 {K : HK} {E : HE} {r : Unit} {g' : PH}  (C : VC K E 3 cX1_prepare RX1 none)  : ∀ (n : Nat) (g : PH) (v0 : Nat) (v1 : Int32), fX1_prepare_2  n g v0 v1 = some (r, g') → V K E (hRm 5 123 0 0) 3 (hZ K E none g' 0 0) 0 0 (kS K) g 2 [(0, .ref v0), (1, .int v1)] [] := by
  intro n
  induction n with
  | zero =>
    intro g v0 v1 hf
    rw [fX1_prepare_2] at hf
    cases hf
  | succ n ih =>
    intro g v0 v1 hf
    rw [fX1_prepare_2] at hf
    refine V.iload_n (pc := 2) C dX1_prepare_2 1 rfl ?_
    refine V.iconst (pc := 3) C dX1_prepare_3 (v := (4 : Int32)) (by decide) ?_
    refine V.icmp_ge (pc := 4) (t := 74) C dX1_prepare_4 (by decide) (fun c1 => ?_) (fun c1 => ?_)
    · replace hf := ite_t c1 hf
      obtain ⟨f1, f2⟩ := fin2 hf
      clear hf
      subst f1
      subst f2
      exact V.vret (pc := 74) C rfl dX1_prepare_74
    replace hf := ite_f c1 hf
    refine V.aload_n (pc := 7) C dX1_prepare_7 0 rfl ?_
    replace hf := ob_some hf
    obtain ⟨p2, h3, hf⟩ := hf
    refine V.getR (pc := 8) C kX1 (k := 8) (by decide) wd_256 h3 dX1_prepare_8 ?_
    refine V.iload_n (pc := 11) C dX1_prepare_11 1 rfl ?_
    refine V.aload_n (pc := 12) C dX1_prepare_12 0 rfl ?_
    refine V.iload_n (pc := 13) C dX1_prepare_13 1 rfl ?_
    replace hf := ob_some hf
    obtain ⟨q4, h5, hf⟩ := hf
    refine V.callV0i (pc := 14) C hyX1_settle wd_407 (mX1_settle (r := q4.1) (g' := q4.2) K.2.1 E (kS K) h5) rfl rfl rfl (oX1_settle h5) ⟨Nat.le_of_ble_eq_true rfl, Nat.le_of_ble_eq_true rfl⟩ (Nat.le_of_ble_eq_true rfl) dX1_prepare_14 ⟨Nat.zero_le _, Nat.zero_le _⟩ rfl ?_
    replace hf := ob_some hf
    obtain ⟨g6, h7, hf⟩ := hf
    refine V.iast (pc := 17) C h7 dX1_prepare_17 ?_
    refine V.iconst (pc := 18) C dX1_prepare_18 (v := (0 : Int32)) (by decide) ?_
    refine V.istore_n (pc := 19) (L' := [(2, .int (0 : Int32)), (0, .ref v0), (1, .int v1)]) C dX1_prepare_19 (by decide) rfl ?_
    refine V.sub (L' := [(0, .ref v0), (1, .int v1), (2, .int (0 : Int32))]) [1, 2, 0] rfl ?_
    exact bX1_prepare_20 C ih _ _ _ _ _ hf
def fX1_prepare (g : PH) (a0 : Nat) : Option (Unit × PH) :=
  okb (isO g a0 1) (fX1_prepare_2 FUEL g a0 (0 : Int32))
theorem oX1_prepare {g : PH} {a0 : Nat} {q : (Unit × PH)} (h : fX1_prepare g a0 = some q) : isO g a0 1 = true := by unfold fX1_prepare at h; exact (okb_some h).1
theorem hyX1_prepare : hMet yX1_prepare RX1 cX1_prepare 3 none 0 := ⟨wd_406, wd_404, wd_405, wd_8, rfl, by decide +kernel, by decide +kernel, by decide +kernel⟩
set_option maxHeartbeats 4000000 in
set_option maxRecDepth 100000 in
theorem mX1_prepare (l : Launch) (E : HE) (sz : Nat) {g g' : PH} {a0 : Nat} {r : Unit} (hf : fX1_prepare g a0 = some (r, g')) : hM l E yX1_prepare cX1_prepare 3 none 5 123 0 0 sz g [.ref a0] none g' := by
  refine hM.of (by decide) (Nat.le_of_ble_eq_true rfl) (fun K hl C hin hsz => ?_)
  subst hl
  subst hsz
  have C : VC K E 3 cX1_prepare RX1 none := C
  unfold fX1_prepare at hf
  replace hf := okb_some hf
  obtain ⟨ho, hf⟩ := hf
  refine V.start (L' := [(0, .ref a0)]) rfl ?_
  refine V.iconst (pc := 0) C dX1_prepare_0 (v := (0 : Int32)) (by decide) ?_
  refine V.istore_n (pc := 1) (L' := [(1, .int (0 : Int32)), (0, .ref a0)]) C dX1_prepare_1 (by decide) rfl ?_
  refine V.sub (L' := [(0, .ref a0), (1, .int (0 : Int32))]) [1, 0] rfl ?_
  exact bX1_prepare_2 C  _ _ _ _ hf
theorem dX1_outcomeOf_0 : decode cX1_outcomeOf 0 = .ok (.iload_n 1, 1) := by decide +kernel
theorem dX1_outcomeOf_1 : decode cX1_outcomeOf 1 = .ok (.bipush 12, 2) := by decide +kernel
theorem dX1_outcomeOf_3 : decode cX1_outcomeOf 3 = .ok (.imul, 1) := by decide +kernel
theorem dX1_outcomeOf_4 : decode cX1_outcomeOf 4 = .ok (.iload_n 2, 1) := by decide +kernel
theorem dX1_outcomeOf_5 : decode cX1_outcomeOf 5 = .ok (.iconst 4, 1) := by decide +kernel
theorem dX1_outcomeOf_6 : decode cX1_outcomeOf 6 = .ok (.imul, 1) := by decide +kernel
theorem dX1_outcomeOf_7 : decode cX1_outcomeOf 7 = .ok (.iadd, 1) := by decide +kernel
theorem dX1_outcomeOf_8 : decode cX1_outcomeOf 8 = .ok (.iload_n 3, 1) := by decide +kernel
theorem dX1_outcomeOf_9 : decode cX1_outcomeOf 9 = .ok (.iconst 3, 1) := by decide +kernel
theorem dX1_outcomeOf_10 : decode cX1_outcomeOf 10 = .ok (.iand, 1) := by decide +kernel
theorem dX1_outcomeOf_11 : decode cX1_outcomeOf 11 = .ok (.iadd, 1) := by decide +kernel
theorem dX1_outcomeOf_12 : decode cX1_outcomeOf 12 = .ok (.istore 4, 2) := by decide +kernel
theorem dX1_outcomeOf_14 : decode cX1_outcomeOf 14 = .ok (.iload 4, 2) := by decide +kernel
theorem dX1_outcomeOf_16 : decode cX1_outcomeOf 16 = .ok (.ifCond .lt 20, 3) := by decide +kernel
theorem dX1_outcomeOf_19 : decode cX1_outcomeOf 19 = .ok (.iload 4, 2) := by decide +kernel
theorem dX1_outcomeOf_21 : decode cX1_outcomeOf 21 = .ok (.bipush 24, 2) := by decide +kernel
theorem dX1_outcomeOf_23 : decode cX1_outcomeOf 23 = .ok (.if_icmp .ge 13, 3) := by decide +kernel
theorem dX1_outcomeOf_26 : decode cX1_outcomeOf 26 = .ok (.aload_n 0, 1) := by decide +kernel
theorem dX1_outcomeOf_27 : decode cX1_outcomeOf 27 = .ok (.getfield 35, 3) := by decide +kernel
theorem dX1_outcomeOf_30 : decode cX1_outcomeOf 30 = .ok (.iload 4, 2) := by decide +kernel
theorem dX1_outcomeOf_32 : decode cX1_outcomeOf 32 = .ok (.iaload, 1) := by decide +kernel
theorem dX1_outcomeOf_33 : decode cX1_outcomeOf 33 = .ok (.goto 4, 3) := by decide +kernel
theorem dX1_outcomeOf_36 : decode cX1_outcomeOf 36 = .ok (.iconst 0, 1) := by decide +kernel
theorem dX1_outcomeOf_37 : decode cX1_outcomeOf 37 = .ok (.ireturn, 1) := by decide +kernel
def fX1_outcomeOf (g : PH) (a0 : Nat) (a1 : Int32) (a2 : Int32) (a3 : Int32) : Option (Int32 × PH) :=
  okb (isO g a0 1) (if (((a1 * (12 : Int32)) + (a2 * (4 : Int32))) + (a3 &&& (3 : Int32))) < 0 then (some ((0 : Int32), g)) else
  (if (24 : Int32) ≤ (((a1 * (12 : Int32)) + (a2 * (4 : Int32))) + (a3 &&& (3 : Int32))) then (some ((0 : Int32), g)) else
  ((getR g a0 1 7).bind fun p3 =>
  ((ldI g p3 0 (((a1 * (12 : Int32)) + (a2 * (4 : Int32))) + (a3 &&& (3 : Int32)))).bind fun x5 =>
  (some (x5, g))))))
theorem oX1_outcomeOf {g : PH} {a0 : Nat} {a1 : Int32} {a2 : Int32} {a3 : Int32} {q : (Int32 × PH)} (h : fX1_outcomeOf g a0 a1 a2 a3 = some q) : isO g a0 1 = true := by unfold fX1_outcomeOf at h; exact (okb_some h).1
theorem hyX1_outcomeOf : hMet yX1_outcomeOf RX1 cX1_outcomeOf 5 (some .int) 3 := ⟨wd_621, wd_619, wd_620, wd_8, rfl, by decide +kernel, by decide +kernel, by decide +kernel⟩
set_option maxHeartbeats 4000000 in
set_option maxRecDepth 100000 in
theorem mX1_outcomeOf (l : Launch) (E : HE) (sz : Nat) {g g' : PH} {a0 : Nat} {a1 : Int32} {a2 : Int32} {a3 : Int32} {r : Int32} (hf : fX1_outcomeOf g a0 a1 a2 a3 = some (r, g')) : hM l E yX1_outcomeOf cX1_outcomeOf 5 (some .int) 0 0 0 0 sz g [.ref a0, .int a1, .int a2, .int a3] (some (.int r)) g' := by
  refine hM.of (by decide) (Nat.le_of_ble_eq_true rfl) (fun K hl C hin hsz => ?_)
  subst hl
  subst hsz
  have C : VC K E 5 cX1_outcomeOf RX1 (some .int) := C
  unfold fX1_outcomeOf at hf
  replace hf := okb_some hf
  obtain ⟨ho, hf⟩ := hf
  refine V.start (L' := [(0, .ref a0), (1, .int a1), (2, .int a2), (3, .int a3)]) rfl ?_
  refine V.iload_n (pc := 0) C dX1_outcomeOf_0 1 rfl ?_
  refine V.bipush (pc := 1) C dX1_outcomeOf_1 (v := (12 : Int32)) (by decide) ?_
  refine V.imul (pc := 3) C dX1_outcomeOf_3 ?_
  refine V.iload_n (pc := 4) C dX1_outcomeOf_4 2 rfl ?_
  refine V.iconst (pc := 5) C dX1_outcomeOf_5 (v := (4 : Int32)) (by decide) ?_
  refine V.imul (pc := 6) C dX1_outcomeOf_6 ?_
  refine V.iadd (pc := 7) C dX1_outcomeOf_7 ?_
  refine V.iload_n (pc := 8) C dX1_outcomeOf_8 3 rfl ?_
  refine V.iconst (pc := 9) C dX1_outcomeOf_9 (v := (3 : Int32)) (by decide) ?_
  refine V.iand (pc := 10) C dX1_outcomeOf_10 ?_
  refine V.iadd (pc := 11) C dX1_outcomeOf_11 ?_
  refine V.istore (pc := 12) (L' := [(4, .int (((a1 * (12 : Int32)) + (a2 * (4 : Int32))) + (a3 &&& (3 : Int32)))), (0, .ref a0), (1, .int a1), (2, .int a2), (3, .int a3)]) C dX1_outcomeOf_12 (by decide) rfl ?_
  refine V.iload (pc := 14) C dX1_outcomeOf_14 0 rfl ?_
  refine V.if_lt (pc := 16) (t := 36) C dX1_outcomeOf_16 (by decide) (fun c1 => ?_) (fun c1 => ?_)
  · replace hf := ite_t c1 hf
    refine V.iconst (pc := 36) C dX1_outcomeOf_36 (v := (0 : Int32)) (by decide) ?_
    obtain ⟨f1, f2⟩ := fin2 hf
    clear hf
    subst f1
    subst f2
    exact V.iret (pc := 37) C rfl dX1_outcomeOf_37
  replace hf := ite_f c1 hf
  refine V.iload (pc := 19) C dX1_outcomeOf_19 0 rfl ?_
  refine V.bipush (pc := 21) C dX1_outcomeOf_21 (v := (24 : Int32)) (by decide) ?_
  refine V.icmp_ge (pc := 23) (t := 36) C dX1_outcomeOf_23 (by decide) (fun c2 => ?_) (fun c2 => ?_)
  · replace hf := ite_t c2 hf
    refine V.iconst (pc := 36) C dX1_outcomeOf_36 (v := (0 : Int32)) (by decide) ?_
    obtain ⟨f1, f2⟩ := fin2 hf
    clear hf
    subst f1
    subst f2
    exact V.iret (pc := 37) C rfl dX1_outcomeOf_37
  replace hf := ite_f c2 hf
  refine V.aload_n (pc := 26) C dX1_outcomeOf_26 1 rfl ?_
  replace hf := ob_some hf
  obtain ⟨p3, h4, hf⟩ := hf
  refine V.getR (pc := 27) C kX1 (k := 7) (by decide) wd_255 h4 dX1_outcomeOf_27 ?_
  refine V.iload (pc := 30) C dX1_outcomeOf_30 0 rfl ?_
  replace hf := ob_some hf
  obtain ⟨x5, h6, hf⟩ := hf
  refine V.iald (pc := 32) C h6 dX1_outcomeOf_32 ?_
  refine V.goto (pc := 33) (t := 37) C dX1_outcomeOf_33 (by decide) ?_
  obtain ⟨f1, f2⟩ := fin2 hf
  clear hf
  subst f1
  subst f2
  exact V.iret (pc := 37) C rfl dX1_outcomeOf_37
theorem dX1_settledFrom_0 : decode cX1_settledFrom 0 = .ok (.aload_n 0, 1) := by decide +kernel
theorem dX1_settledFrom_1 : decode cX1_settledFrom 1 = .ok (.getfield 38, 3) := by decide +kernel
theorem dX1_settledFrom_4 : decode cX1_settledFrom 4 = .ok (.iload_n 1, 1) := by decide +kernel
theorem dX1_settledFrom_5 : decode cX1_settledFrom 5 = .ok (.iconst 3, 1) := by decide +kernel
theorem dX1_settledFrom_6 : decode cX1_settledFrom 6 = .ok (.iand, 1) := by decide +kernel
theorem dX1_settledFrom_7 : decode cX1_settledFrom 7 = .ok (.iaload, 1) := by decide +kernel
theorem dX1_settledFrom_8 : decode cX1_settledFrom 8 = .ok (.ireturn, 1) := by decide +kernel
def fX1_settledFrom (g : PH) (a0 : Nat) (a1 : Int32) : Option (Int32 × PH) :=
  okb (isO g a0 1) ((getR g a0 1 8).bind fun p1 =>
  ((ldI g p1 0 (a1 &&& (3 : Int32))).bind fun x3 =>
  (some (x3, g))))
theorem oX1_settledFrom {g : PH} {a0 : Nat} {a1 : Int32} {q : (Int32 × PH)} (h : fX1_settledFrom g a0 a1 = some q) : isO g a0 1 = true := by unfold fX1_settledFrom at h; exact (okb_some h).1
theorem hyX1_settledFrom : hMet yX1_settledFrom RX1 cX1_settledFrom 2 (some .int) 1 := ⟨wd_180, wd_178, wd_179, wd_8, rfl, by decide +kernel, by decide +kernel, by decide +kernel⟩
set_option maxHeartbeats 4000000 in
set_option maxRecDepth 100000 in
theorem mX1_settledFrom (l : Launch) (E : HE) (sz : Nat) {g g' : PH} {a0 : Nat} {a1 : Int32} {r : Int32} (hf : fX1_settledFrom g a0 a1 = some (r, g')) : hM l E yX1_settledFrom cX1_settledFrom 2 (some .int) 0 0 0 0 sz g [.ref a0, .int a1] (some (.int r)) g' := by
  refine hM.of (by decide) (Nat.le_of_ble_eq_true rfl) (fun K hl C hin hsz => ?_)
  subst hl
  subst hsz
  have C : VC K E 2 cX1_settledFrom RX1 (some .int) := C
  unfold fX1_settledFrom at hf
  replace hf := okb_some hf
  obtain ⟨ho, hf⟩ := hf
  refine V.start (L' := [(0, .ref a0), (1, .int a1)]) rfl ?_
  refine V.aload_n (pc := 0) C dX1_settledFrom_0 0 rfl ?_
  replace hf := ob_some hf
  obtain ⟨p1, h2, hf⟩ := hf
  refine V.getR (pc := 1) C kX1 (k := 8) (by decide) wd_256 h2 dX1_settledFrom_1 ?_
  refine V.iload_n (pc := 4) C dX1_settledFrom_4 1 rfl ?_
  refine V.iconst (pc := 5) C dX1_settledFrom_5 (v := (3 : Int32)) (by decide) ?_
  refine V.iand (pc := 6) C dX1_settledFrom_6 ?_
  replace hf := ob_some hf
  obtain ⟨x3, h4, hf⟩ := hf
  refine V.iald (pc := 7) C h4 dX1_settledFrom_7 ?_
  obtain ⟨f1, f2⟩ := fin2 hf
  clear hf
  subst f1
  subst f2
  exact V.iret (pc := 8) C rfl dX1_settledFrom_8
theorem dX1_placements_0 : decode cX1_placements 0 = .ok (.aload_n 0, 1) := by decide +kernel
theorem dX1_placements_1 : decode cX1_placements 1 = .ok (.getfield 15, 3) := by decide +kernel
theorem dX1_placements_4 : decode cX1_placements 4 = .ok (.ifCond .eq 11, 3) := by decide +kernel
theorem dX1_placements_7 : decode cX1_placements 7 = .ok (.iload_n 1, 1) := by decide +kernel
theorem dX1_placements_8 : decode cX1_placements 8 = .ok (.iload_n 1, 1) := by decide +kernel
theorem dX1_placements_9 : decode cX1_placements 9 = .ok (.iconst 1, 1) := by decide +kernel
theorem dX1_placements_10 : decode cX1_placements 10 = .ok (.isub, 1) := by decide +kernel
theorem dX1_placements_11 : decode cX1_placements 11 = .ok (.imul, 1) := by decide +kernel
theorem dX1_placements_12 : decode cX1_placements 12 = .ok (.goto 4, 3) := by decide +kernel
theorem dX1_placements_15 : decode cX1_placements 15 = .ok (.iload_n 1, 1) := by decide +kernel
theorem dX1_placements_16 : decode cX1_placements 16 = .ok (.ireturn, 1) := by decide +kernel
def fX1_placements (g : PH) (a0 : Nat) (a1 : Int32) : Option (Int32 × PH) :=
  okb (isO g a0 1) ((getI g a0 1 1).bind fun x1 =>
  (if x1 = 0 then (some (a1, g)) else
  (some ((a1 * (a1 - (1 : Int32))), g))))
theorem oX1_placements {g : PH} {a0 : Nat} {a1 : Int32} {q : (Int32 × PH)} (h : fX1_placements g a0 a1 = some q) : isO g a0 1 = true := by unfold fX1_placements at h; exact (okb_some h).1
theorem hyX1_placements : hMet yX1_placements RX1 cX1_placements 2 (some .int) 1 := ⟨wd_544, wd_542, wd_543, wd_8, rfl, by decide +kernel, by decide +kernel, by decide +kernel⟩
set_option maxHeartbeats 4000000 in
set_option maxRecDepth 100000 in
theorem mX1_placements (l : Launch) (E : HE) (sz : Nat) {g g' : PH} {a0 : Nat} {a1 : Int32} {r : Int32} (hf : fX1_placements g a0 a1 = some (r, g')) : hM l E yX1_placements cX1_placements 2 (some .int) 0 0 0 0 sz g [.ref a0, .int a1] (some (.int r)) g' := by
  refine hM.of (by decide) (Nat.le_of_ble_eq_true rfl) (fun K hl C hin hsz => ?_)
  subst hl
  subst hsz
  have C : VC K E 2 cX1_placements RX1 (some .int) := C
  unfold fX1_placements at hf
  replace hf := okb_some hf
  obtain ⟨ho, hf⟩ := hf
  refine V.start (L' := [(0, .ref a0), (1, .int a1)]) rfl ?_
  refine V.aload_n (pc := 0) C dX1_placements_0 0 rfl ?_
  replace hf := ob_some hf
  obtain ⟨x1, h2, hf⟩ := hf
  refine V.getI (pc := 1) C kX1 (k := 1) (by decide) wd_248 h2 dX1_placements_1 ?_
  refine V.if_eq (pc := 4) (t := 15) C dX1_placements_4 (by decide) (fun c3 => ?_) (fun c3 => ?_)
  · replace hf := ite_t c3 hf
    refine V.iload_n (pc := 15) C dX1_placements_15 1 rfl ?_
    obtain ⟨f1, f2⟩ := fin2 hf
    clear hf
    subst f1
    subst f2
    exact V.iret (pc := 16) C rfl dX1_placements_16
  replace hf := ite_f c3 hf
  refine V.iload_n (pc := 7) C dX1_placements_7 1 rfl ?_
  refine V.iload_n (pc := 8) C dX1_placements_8 1 rfl ?_
  refine V.iconst (pc := 9) C dX1_placements_9 (v := (1 : Int32)) (by decide) ?_
  refine V.isub (pc := 10) C dX1_placements_10 ?_
  refine V.imul (pc := 11) C dX1_placements_11 ?_
  refine V.goto (pc := 12) (t := 16) C dX1_placements_12 (by decide) ?_
  obtain ⟨f1, f2⟩ := fin2 hf
  clear hf
  subst f1
  subst f2
  exact V.iret (pc := 16) C rfl dX1_placements_16
theorem dX1_aggressorOf_0 : decode cX1_aggressorOf 0 = .ok (.aload_n 0, 1) := by decide +kernel
theorem dX1_aggressorOf_1 : decode cX1_aggressorOf 1 = .ok (.getfield 15, 3) := by decide +kernel
theorem dX1_aggressorOf_4 : decode cX1_aggressorOf 4 = .ok (.ifCond .eq 15, 3) := by decide +kernel
theorem dX1_aggressorOf_7 : decode cX1_aggressorOf 7 = .ok (.iload_n 1, 1) := by decide +kernel
theorem dX1_aggressorOf_8 : decode cX1_aggressorOf 8 = .ok (.iconst 1, 1) := by decide +kernel
theorem dX1_aggressorOf_9 : decode cX1_aggressorOf 9 = .ok (.iload_n 2, 1) := by decide +kernel
theorem dX1_aggressorOf_10 : decode cX1_aggressorOf 10 = .ok (.iconst 1, 1) := by decide +kernel
theorem dX1_aggressorOf_11 : decode cX1_aggressorOf 11 = .ok (.isub, 1) := by decide +kernel
theorem dX1_aggressorOf_12 : decode cX1_aggressorOf 12 = .ok (.invokestatic 92, 3) := by decide +kernel
theorem dX1_aggressorOf_15 : decode cX1_aggressorOf 15 = .ok (.idiv, 1) := by decide +kernel
theorem dX1_aggressorOf_16 : decode cX1_aggressorOf 16 = .ok (.goto 4, 3) := by decide +kernel
theorem dX1_aggressorOf_19 : decode cX1_aggressorOf 19 = .ok (.iconst (-1), 1) := by decide +kernel
theorem dX1_aggressorOf_20 : decode cX1_aggressorOf 20 = .ok (.ireturn, 1) := by decide +kernel
def fX1_aggressorOf (g : PH) (a0 : Nat) (a1 : Int32) (a2 : Int32) : Option (Int32 × PH) :=
  okb (isO g a0 1) ((getI g a0 1 1).bind fun x1 =>
  (if x1 = 0 then (some ((-1 : Int32), g)) else
  (okb (decide (¬ (if (1 : Int32) < (a2 - (1 : Int32)) then (a2 - (1 : Int32)) else (1 : Int32)) = 0)) (some ((a1 / (if (1 : Int32) < (a2 - (1 : Int32)) then (a2 - (1 : Int32)) else (1 : Int32))), g)))))
theorem oX1_aggressorOf {g : PH} {a0 : Nat} {a1 : Int32} {a2 : Int32} {q : (Int32 × PH)} (h : fX1_aggressorOf g a0 a1 a2 = some q) : isO g a0 1 = true := by unfold fX1_aggressorOf at h; exact (okb_some h).1
theorem hyX1_aggressorOf : hMet yX1_aggressorOf RX1 cX1_aggressorOf 3 (some .int) 2 := ⟨wd_633, wd_631, wd_632, wd_8, rfl, by decide +kernel, by decide +kernel, by decide +kernel⟩
set_option maxHeartbeats 4000000 in
set_option maxRecDepth 100000 in
theorem mX1_aggressorOf (l : Launch) (E : HE) (sz : Nat) {g g' : PH} {a0 : Nat} {a1 : Int32} {a2 : Int32} {r : Int32} (hf : fX1_aggressorOf g a0 a1 a2 = some (r, g')) : hM l E yX1_aggressorOf cX1_aggressorOf 3 (some .int) 1 21 0 0 sz g [.ref a0, .int a1, .int a2] (some (.int r)) g' := by
  refine hM.of (by decide) (Nat.le_of_ble_eq_true rfl) (fun K hl C hin hsz => ?_)
  subst hl
  subst hsz
  have C : VC K E 3 cX1_aggressorOf RX1 (some .int) := C
  unfold fX1_aggressorOf at hf
  replace hf := okb_some hf
  obtain ⟨ho, hf⟩ := hf
  refine V.start (L' := [(0, .ref a0), (1, .int a1), (2, .int a2)]) rfl ?_
  refine V.aload_n (pc := 0) C dX1_aggressorOf_0 0 rfl ?_
  replace hf := ob_some hf
  obtain ⟨x1, h2, hf⟩ := hf
  refine V.getI (pc := 1) C kX1 (k := 1) (by decide) wd_248 h2 dX1_aggressorOf_1 ?_
  refine V.if_eq (pc := 4) (t := 19) C dX1_aggressorOf_4 (by decide) (fun c3 => ?_) (fun c3 => ?_)
  · replace hf := ite_t c3 hf
    refine V.iconst (pc := 19) C dX1_aggressorOf_19 (v := (-1 : Int32)) (by decide) ?_
    obtain ⟨f1, f2⟩ := fin2 hf
    clear hf
    subst f1
    subst f2
    exact V.iret (pc := 20) C rfl dX1_aggressorOf_20
  replace hf := ite_f c3 hf
  refine V.iload_n (pc := 7) C dX1_aggressorOf_7 1 rfl ?_
  refine V.iconst (pc := 8) C dX1_aggressorOf_8 (v := (1 : Int32)) (by decide) ?_
  refine V.iload_n (pc := 9) C dX1_aggressorOf_9 2 rfl ?_
  refine V.iconst (pc := 10) C dX1_aggressorOf_10 (v := (1 : Int32)) (by decide) ?_
  refine V.isub (pc := 11) C dX1_aggressorOf_11 ?_
  refine V.mmax (pc := 12) C wd_634 wd_163 wd_6 wd_164 ⟨Nat.le_of_ble_eq_true rfl, Nat.le_of_ble_eq_true rfl⟩ (Nat.le_of_ble_eq_true rfl) ⟨Nat.zero_le _, Nat.zero_le _⟩ dX1_aggressorOf_12 ?_
  replace hf := okb_some hf
  obtain ⟨h4, hf⟩ := hf
  refine V.idiv (pc := 15) C dX1_aggressorOf_15 (of_decide_eq_true h4) ?_
  refine V.goto (pc := 16) (t := 20) C dX1_aggressorOf_16 (by decide) ?_
  obtain ⟨f1, f2⟩ := fin2 hf
  clear hf
  subst f1
  subst f2
  exact V.iret (pc := 20) C rfl dX1_aggressorOf_20
theorem dX1_victimOf_0 : decode cX1_victimOf 0 = .ok (.aload_n 0, 1) := by decide +kernel
theorem dX1_victimOf_1 : decode cX1_victimOf 1 = .ok (.getfield 15, 3) := by decide +kernel
theorem dX1_victimOf_4 : decode cX1_victimOf 4 = .ok (.ifCond .ne 5, 3) := by decide +kernel
theorem dX1_victimOf_7 : decode cX1_victimOf 7 = .ok (.iload_n 1, 1) := by decide +kernel
theorem dX1_victimOf_8 : decode cX1_victimOf 8 = .ok (.ireturn, 1) := by decide +kernel
theorem dX1_victimOf_9 : decode cX1_victimOf 9 = .ok (.iconst 1, 1) := by decide +kernel
theorem dX1_victimOf_10 : decode cX1_victimOf 10 = .ok (.iload_n 2, 1) := by decide +kernel
theorem dX1_victimOf_11 : decode cX1_victimOf 11 = .ok (.iconst 1, 1) := by decide +kernel
theorem dX1_victimOf_12 : decode cX1_victimOf 12 = .ok (.isub, 1) := by decide +kernel
theorem dX1_victimOf_13 : decode cX1_victimOf 13 = .ok (.invokestatic 92, 3) := by decide +kernel
theorem dX1_victimOf_16 : decode cX1_victimOf 16 = .ok (.istore_n 3, 1) := by decide +kernel
theorem dX1_victimOf_17 : decode cX1_victimOf 17 = .ok (.iload_n 1, 1) := by decide +kernel
theorem dX1_victimOf_18 : decode cX1_victimOf 18 = .ok (.iload_n 3, 1) := by decide +kernel
theorem dX1_victimOf_19 : decode cX1_victimOf 19 = .ok (.irem, 1) := by decide +kernel
theorem dX1_victimOf_20 : decode cX1_victimOf 20 = .ok (.istore 4, 2) := by decide +kernel
theorem dX1_victimOf_22 : decode cX1_victimOf 22 = .ok (.iload 4, 2) := by decide +kernel
theorem dX1_victimOf_24 : decode cX1_victimOf 24 = .ok (.iload_n 1, 1) := by decide +kernel
theorem dX1_victimOf_25 : decode cX1_victimOf 25 = .ok (.iload_n 3, 1) := by decide +kernel
theorem dX1_victimOf_26 : decode cX1_victimOf 26 = .ok (.idiv, 1) := by decide +kernel
theorem dX1_victimOf_27 : decode cX1_victimOf 27 = .ok (.if_icmp .ge 8, 3) := by decide +kernel
theorem dX1_victimOf_30 : decode cX1_victimOf 30 = .ok (.iload 4, 2) := by decide +kernel
theorem dX1_victimOf_32 : decode cX1_victimOf 32 = .ok (.goto 7, 3) := by decide +kernel
theorem dX1_victimOf_35 : decode cX1_victimOf 35 = .ok (.iload 4, 2) := by decide +kernel
theorem dX1_victimOf_37 : decode cX1_victimOf 37 = .ok (.iconst 1, 1) := by decide +kernel
theorem dX1_victimOf_38 : decode cX1_victimOf 38 = .ok (.iadd, 1) := by decide +kernel
theorem dX1_victimOf_39 : decode cX1_victimOf 39 = .ok (.ireturn, 1) := by decide +kernel
def fX1_victimOf (g : PH) (a0 : Nat) (a1 : Int32) (a2 : Int32) : Option (Int32 × PH) :=
  okb (isO g a0 1) ((getI g a0 1 1).bind fun x1 =>
  (if x1 = 0 then (some (a1, g)) else
  (okb (decide (¬ (if (1 : Int32) < (a2 - (1 : Int32)) then (a2 - (1 : Int32)) else (1 : Int32)) = 0)) (okb (decide (¬ (if (1 : Int32) < (a2 - (1 : Int32)) then (a2 - (1 : Int32)) else (1 : Int32)) = 0)) (if (a1 / (if (1 : Int32) < (a2 - (1 : Int32)) then (a2 - (1 : Int32)) else (1 : Int32))) ≤ (a1 - a1 / (if (1 : Int32) < (a2 - (1 : Int32)) then (a2 - (1 : Int32)) else (1 : Int32)) * (if (1 : Int32) < (a2 - (1 : Int32)) then (a2 - (1 : Int32)) else (1 : Int32))) then (some (((a1 - a1 / (if (1 : Int32) < (a2 - (1 : Int32)) then (a2 - (1 : Int32)) else (1 : Int32)) * (if (1 : Int32) < (a2 - (1 : Int32)) then (a2 - (1 : Int32)) else (1 : Int32))) + (1 : Int32)), g)) else
  (some ((a1 - a1 / (if (1 : Int32) < (a2 - (1 : Int32)) then (a2 - (1 : Int32)) else (1 : Int32)) * (if (1 : Int32) < (a2 - (1 : Int32)) then (a2 - (1 : Int32)) else (1 : Int32))), g)))))))
theorem oX1_victimOf {g : PH} {a0 : Nat} {a1 : Int32} {a2 : Int32} {q : (Int32 × PH)} (h : fX1_victimOf g a0 a1 a2 = some q) : isO g a0 1 = true := by unfold fX1_victimOf at h; exact (okb_some h).1
theorem hyX1_victimOf : hMet yX1_victimOf RX1 cX1_victimOf 5 (some .int) 2 := ⟨wd_638, wd_636, wd_637, wd_8, rfl, by decide +kernel, by decide +kernel, by decide +kernel⟩
set_option maxHeartbeats 4000000 in
set_option maxRecDepth 100000 in
theorem mX1_victimOf (l : Launch) (E : HE) (sz : Nat) {g g' : PH} {a0 : Nat} {a1 : Int32} {a2 : Int32} {r : Int32} (hf : fX1_victimOf g a0 a1 a2 = some (r, g')) : hM l E yX1_victimOf cX1_victimOf 5 (some .int) 1 21 0 0 sz g [.ref a0, .int a1, .int a2] (some (.int r)) g' := by
  refine hM.of (by decide) (Nat.le_of_ble_eq_true rfl) (fun K hl C hin hsz => ?_)
  subst hl
  subst hsz
  have C : VC K E 5 cX1_victimOf RX1 (some .int) := C
  unfold fX1_victimOf at hf
  replace hf := okb_some hf
  obtain ⟨ho, hf⟩ := hf
  refine V.start (L' := [(0, .ref a0), (1, .int a1), (2, .int a2)]) rfl ?_
  refine V.aload_n (pc := 0) C dX1_victimOf_0 0 rfl ?_
  replace hf := ob_some hf
  obtain ⟨x1, h2, hf⟩ := hf
  refine V.getI (pc := 1) C kX1 (k := 1) (by decide) wd_248 h2 dX1_victimOf_1 ?_
  refine V.if_ne (pc := 4) (t := 9) C dX1_victimOf_4 (by decide) (fun c3 => ?_) (fun c3 => ?_)
  · replace hf := ite_f c3 hf
    refine V.iconst (pc := 9) C dX1_victimOf_9 (v := (1 : Int32)) (by decide) ?_
    refine V.iload_n (pc := 10) C dX1_victimOf_10 2 rfl ?_
    refine V.iconst (pc := 11) C dX1_victimOf_11 (v := (1 : Int32)) (by decide) ?_
    refine V.isub (pc := 12) C dX1_victimOf_12 ?_
    refine V.mmax (pc := 13) C wd_634 wd_163 wd_6 wd_164 ⟨Nat.le_of_ble_eq_true rfl, Nat.le_of_ble_eq_true rfl⟩ (Nat.le_of_ble_eq_true rfl) ⟨Nat.zero_le _, Nat.zero_le _⟩ dX1_victimOf_13 ?_
    refine V.istore_n (pc := 16) (L' := [(3, .int (if (1 : Int32) < (a2 - (1 : Int32)) then (a2 - (1 : Int32)) else (1 : Int32))), (0, .ref a0), (1, .int a1), (2, .int a2)]) C dX1_victimOf_16 (by decide) rfl ?_
    refine V.iload_n (pc := 17) C dX1_victimOf_17 2 rfl ?_
    refine V.iload_n (pc := 18) C dX1_victimOf_18 0 rfl ?_
    replace hf := okb_some hf
    obtain ⟨h4, hf⟩ := hf
    refine V.irem (pc := 19) C dX1_victimOf_19 (of_decide_eq_true h4) ?_
    refine V.istore (pc := 20) (L' := [(4, .int (a1 - a1 / (if (1 : Int32) < (a2 - (1 : Int32)) then (a2 - (1 : Int32)) else (1 : Int32)) * (if (1 : Int32) < (a2 - (1 : Int32)) then (a2 - (1 : Int32)) else (1 : Int32)))), (3, .int (if (1 : Int32) < (a2 - (1 : Int32)) then (a2 - (1 : Int32)) else (1 : Int32))), (0, .ref a0), (1, .int a1), (2, .int a2)]) C dX1_victimOf_20 (by decide) rfl ?_
    refine V.iload (pc := 22) C dX1_victimOf_22 0 rfl ?_
    refine V.iload_n (pc := 24) C dX1_victimOf_24 3 rfl ?_
    refine V.iload_n (pc := 25) C dX1_victimOf_25 1 rfl ?_
    replace hf := okb_some hf
    obtain ⟨h5, hf⟩ := hf
    refine V.idiv (pc := 26) C dX1_victimOf_26 (of_decide_eq_true h5) ?_
    refine V.icmp_ge (pc := 27) (t := 35) C dX1_victimOf_27 (by decide) (fun c6 => ?_) (fun c6 => ?_)
    · replace hf := ite_t c6 hf
      refine V.iload (pc := 35) C dX1_victimOf_35 0 rfl ?_
      refine V.iconst (pc := 37) C dX1_victimOf_37 (v := (1 : Int32)) (by decide) ?_
      refine V.iadd (pc := 38) C dX1_victimOf_38 ?_
      obtain ⟨f1, f2⟩ := fin2 hf
      clear hf
      subst f1
      subst f2
      exact V.iret (pc := 39) C rfl dX1_victimOf_39
    replace hf := ite_f c6 hf
    refine V.iload (pc := 30) C dX1_victimOf_30 0 rfl ?_
    refine V.goto (pc := 32) (t := 39) C dX1_victimOf_32 (by decide) ?_
    obtain ⟨f1, f2⟩ := fin2 hf
    clear hf
    subst f1
    subst f2
    exact V.iret (pc := 39) C rfl dX1_victimOf_39
  replace hf := ite_t c3 hf
  refine V.iload_n (pc := 7) C dX1_victimOf_7 1 rfl ?_
  obtain ⟨f1, f2⟩ := fin2 hf
  clear hf
  subst f1
  subst f2
  exact V.iret (pc := 8) C rfl dX1_victimOf_8
