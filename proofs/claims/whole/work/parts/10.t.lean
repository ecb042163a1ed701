theorem dX9_isIn_0 : decode cX9_isIn 0 = .ok (.lload_n 0, 1) := by decide +kernel
theorem dX9_isIn_1 : decode cX9_isIn 1 = .ok (.lload_n 2, 1) := by decide +kernel
theorem dX9_isIn_2 : decode cX9_isIn 2 = .ok (.lcmp, 1) := by decide +kernel
theorem dX9_isIn_3 : decode cX9_isIn 3 = .ok (.ifCond .lt 14, 3) := by decide +kernel
theorem dX9_isIn_6 : decode cX9_isIn 6 = .ok (.lload_n 0, 1) := by decide +kernel
theorem dX9_isIn_7 : decode cX9_isIn 7 = .ok (.lload 4, 2) := by decide +kernel
theorem dX9_isIn_9 : decode cX9_isIn 9 = .ok (.lcmp, 1) := by decide +kernel
theorem dX9_isIn_10 : decode cX9_isIn 10 = .ok (.ifCond .gt 7, 3) := by decide +kernel
theorem dX9_isIn_13 : decode cX9_isIn 13 = .ok (.iconst 1, 1) := by decide +kernel
theorem dX9_isIn_14 : decode cX9_isIn 14 = .ok (.goto 4, 3) := by decide +kernel
theorem dX9_isIn_17 : decode cX9_isIn 17 = .ok (.iconst 0, 1) := by decide +kernel
theorem dX9_isIn_18 : decode cX9_isIn 18 = .ok (.ireturn, 1) := by decide +kernel
def fX9_isIn (g : PH) (a0 : Int64) (a1 : Int64) (a2 : Int64) : Option (Int32 × PH) :=
  if (lg_cmp a0 a1) < 0 then (some ((0 : Int32), g)) else
  (if 0 < (lg_cmp a0 a2) then (some ((0 : Int32), g)) else
  (some ((1 : Int32), g)))
theorem wd_1184 : Cond.code yX9_isIn cX9_isIn 6 (some .boolean) ∈ hw_tbl := hw_sub (List.mem_of_getElem? (i := 1301) (by decide +kernel)) rfl
theorem wd_1183 : Cond.static yX9_isIn ∈ hw_tbl := hw_sub (List.mem_of_getElem? (i := 1300) (by decide +kernel)) rfl
theorem wd_7 : Cond.initialized RX9 ∈ hw_tbl := hw_sub (List.mem_of_getElem? (i := 124) (by decide +kernel)) rfl
theorem hyX9_isIn : hMetS yX9_isIn cX9_isIn 6 (some .boolean) 3 := ⟨wd_1184, wd_1183, wd_7, by decide +kernel, by decide +kernel, by decide +kernel⟩
set_option maxHeartbeats 4000000 in
set_option maxRecDepth 100000 in
theorem mX9_isIn (l : Launch) (E : HE) (sz : Nat) {g g' : PH} {a0 : Int64} {a1 : Int64} {a2 : Int64} {r : Int32} (hf : fX9_isIn g a0 a1 a2 = some (r, g')) : hM l E yX9_isIn cX9_isIn 6 (some .boolean) 0 0 0 0 sz g [.long a0, .long a1, .long a2] (some (.int r)) g' := by
  refine hM.of (by decide) (Nat.le_of_ble_eq_true rfl) (fun K hl C hin hsz => ?_)
  subst hl
  subst hsz
  have C : VC K E 6 cX9_isIn RX9 (some .boolean) := C
  unfold fX9_isIn at hf
  refine V.start (L' := [(0, .long a0), (2, .long a1), (4, .long a2)]) rfl ?_
  refine V.lload_n (pc := 0) C dX9_isIn_0 0 rfl ?_
  refine V.lload_n (pc := 1) C dX9_isIn_1 1 rfl ?_
  refine V.lcmp (pc := 2) C dX9_isIn_2 ?_
  refine V.if_lt (pc := 3) (t := 17) C dX9_isIn_3 (by decide) (fun c1 => ?_) (fun c1 => ?_)
  · have hf := ite_t c1 hf
    refine V.iconst (pc := 17) C dX9_isIn_17 (v := (0 : Int32)) (by decide) ?_
    cases hf
    exact V.zret (pc := 18) C rfl rfl dX9_isIn_18
  have hf := ite_f c1 hf
  refine V.lload_n (pc := 6) C dX9_isIn_6 0 rfl ?_
  refine V.lload (pc := 7) C dX9_isIn_7 2 rfl ?_
  refine V.lcmp (pc := 9) C dX9_isIn_9 ?_
  refine V.if_gt (pc := 10) (t := 17) C dX9_isIn_10 (by decide) (fun c2 => ?_) (fun c2 => ?_)
  · have hf := ite_t c2 hf
    refine V.iconst (pc := 17) C dX9_isIn_17 (v := (0 : Int32)) (by decide) ?_
    cases hf
    exact V.zret (pc := 18) C rfl rfl dX9_isIn_18
  have hf := ite_f c2 hf
  refine V.iconst (pc := 13) C dX9_isIn_13 (v := (1 : Int32)) (by decide) ?_
  refine V.goto (pc := 14) (t := 18) C dX9_isIn_14 (by decide) ?_
  cases hf
  exact V.zret (pc := 18) C rfl rfl dX9_isIn_18
theorem dX9_has_0 : decode cX9_has 0 = .ok (.iload_n 0, 1) := by decide +kernel
theorem dX9_has_1 : decode cX9_has 1 = .ok (.iload_n 1, 1) := by decide +kernel
theorem dX9_has_2 : decode cX9_has 2 = .ok (.ishr, 1) := by decide +kernel
theorem dX9_has_3 : decode cX9_has 3 = .ok (.iconst 1, 1) := by decide +kernel
theorem dX9_has_4 : decode cX9_has 4 = .ok (.iand, 1) := by decide +kernel
theorem dX9_has_5 : decode cX9_has 5 = .ok (.iconst 1, 1) := by decide +kernel
theorem dX9_has_6 : decode cX9_has 6 = .ok (.if_icmp .ne 7, 3) := by decide +kernel
theorem dX9_has_9 : decode cX9_has 9 = .ok (.iconst 1, 1) := by decide +kernel
theorem dX9_has_10 : decode cX9_has 10 = .ok (.goto 4, 3) := by decide +kernel
theorem dX9_has_13 : decode cX9_has 13 = .ok (.iconst 0, 1) := by decide +kernel
theorem dX9_has_14 : decode cX9_has 14 = .ok (.ireturn, 1) := by decide +kernel
def fX9_has (g : PH) (a0 : Int32) (a1 : Int32) : Option (Int32 × PH) :=
  if ((a0 >>> (a1 &&& 31)) &&& (1 : Int32)) = (1 : Int32) then (some ((1 : Int32), g)) else
  (some ((0 : Int32), g))
theorem wd_1431 : Cond.code yX9_has cX9_has 2 (some .boolean) ∈ hw_tbl := hw_sub (List.mem_of_getElem? (i := 1548) (by decide +kernel)) rfl
theorem wd_1430 : Cond.static yX9_has ∈ hw_tbl := hw_sub (List.mem_of_getElem? (i := 1547) (by decide +kernel)) rfl
theorem hyX9_has : hMetS yX9_has cX9_has 2 (some .boolean) 2 := ⟨wd_1431, wd_1430, wd_7, by decide +kernel, by decide +kernel, by decide +kernel⟩
set_option maxHeartbeats 4000000 in
set_option maxRecDepth 100000 in
theorem mX9_has (l : Launch) (E : HE) (sz : Nat) {g g' : PH} {a0 : Int32} {a1 : Int32} {r : Int32} (hf : fX9_has g a0 a1 = some (r, g')) : hM l E yX9_has cX9_has 2 (some .boolean) 0 0 0 0 sz g [.int a0, .int a1] (some (.int r)) g' := by
  refine hM.of (by decide) (Nat.le_of_ble_eq_true rfl) (fun K hl C hin hsz => ?_)
  subst hl
  subst hsz
  have C : VC K E 2 cX9_has RX9 (some .boolean) := C
  unfold fX9_has at hf
  refine V.start (L' := [(0, .int a0), (1, .int a1)]) rfl ?_
  refine V.iload_n (pc := 0) C dX9_has_0 0 rfl ?_
  refine V.iload_n (pc := 1) C dX9_has_1 1 rfl ?_
  refine V.ishr (pc := 2) C dX9_has_2 ?_
  refine V.iconst (pc := 3) C dX9_has_3 (v := (1 : Int32)) (by decide) ?_
  refine V.iand (pc := 4) C dX9_has_4 ?_
  refine V.iconst (pc := 5) C dX9_has_5 (v := (1 : Int32)) (by decide) ?_
  refine V.icmp_ne (pc := 6) (t := 13) C dX9_has_6 (by decide) (fun c1 => ?_) (fun c1 => ?_)
  · have hf := ite_f c1 hf
    refine V.iconst (pc := 13) C dX9_has_13 (v := (0 : Int32)) (by decide) ?_
    cases hf
    exact V.zret (pc := 14) C rfl rfl dX9_has_14
  have hf := ite_t c1 hf
  refine V.iconst (pc := 9) C dX9_has_9 (v := (1 : Int32)) (by decide) ?_
  refine V.goto (pc := 10) (t := 14) C dX9_has_10 (by decide) ?_
  cases hf
  exact V.zret (pc := 14) C rfl rfl dX9_has_14
theorem dX9_with_0 : decode cX9_with 0 = .ok (.iload_n 2, 1) := by decide +kernel
theorem dX9_with_1 : decode cX9_with 1 = .ok (.iconst 1, 1) := by decide +kernel
theorem dX9_with_2 : decode cX9_with 2 = .ok (.if_icmp .ne 11, 3) := by decide +kernel
theorem dX9_with_5 : decode cX9_with 5 = .ok (.iload_n 0, 1) := by decide +kernel
theorem dX9_with_6 : decode cX9_with 6 = .ok (.iconst 1, 1) := by decide +kernel
theorem dX9_with_7 : decode cX9_with 7 = .ok (.iload_n 1, 1) := by decide +kernel
theorem dX9_with_8 : decode cX9_with 8 = .ok (.ishl, 1) := by decide +kernel
theorem dX9_with_9 : decode cX9_with 9 = .ok (.ior, 1) := by decide +kernel
theorem dX9_with_10 : decode cX9_with 10 = .ok (.goto 10, 3) := by decide +kernel
theorem dX9_with_13 : decode cX9_with 13 = .ok (.iload_n 0, 1) := by decide +kernel
theorem dX9_with_14 : decode cX9_with 14 = .ok (.iconst 1, 1) := by decide +kernel
theorem dX9_with_15 : decode cX9_with 15 = .ok (.iload_n 1, 1) := by decide +kernel
theorem dX9_with_16 : decode cX9_with 16 = .ok (.ishl, 1) := by decide +kernel
theorem dX9_with_17 : decode cX9_with 17 = .ok (.iconst (-1), 1) := by decide +kernel
theorem dX9_with_18 : decode cX9_with 18 = .ok (.ixor, 1) := by decide +kernel
theorem dX9_with_19 : decode cX9_with 19 = .ok (.iand, 1) := by decide +kernel
theorem dX9_with_20 : decode cX9_with 20 = .ok (.ireturn, 1) := by decide +kernel
def fX9_with (g : PH) (a0 : Int32) (a1 : Int32) (a2 : Int32) : Option (Int32 × PH) :=
  if a2 = (1 : Int32) then (some ((a0 ||| ((1 : Int32) <<< (a1 &&& 31))), g)) else
  (some ((a0 &&& (((1 : Int32) <<< (a1 &&& 31)) ^^^ (-1 : Int32))), g))
theorem wd_1347 : Cond.code yX9_with cX9_with 3 (some .int) ∈ hw_tbl := hw_sub (List.mem_of_getElem? (i := 1464) (by decide +kernel)) rfl
theorem wd_1346 : Cond.static yX9_with ∈ hw_tbl := hw_sub (List.mem_of_getElem? (i := 1463) (by decide +kernel)) rfl
theorem hyX9_with : hMetS yX9_with cX9_with 3 (some .int) 3 := ⟨wd_1347, wd_1346, wd_7, by decide +kernel, by decide +kernel, by decide +kernel⟩
set_option maxHeartbeats 4000000 in
set_option maxRecDepth 100000 in
theorem mX9_with (l : Launch) (E : HE) (sz : Nat) {g g' : PH} {a0 : Int32} {a1 : Int32} {a2 : Int32} {r : Int32} (hf : fX9_with g a0 a1 a2 = some (r, g')) : hM l E yX9_with cX9_with 3 (some .int) 0 0 0 0 sz g [.int a0, .int a1, .int a2] (some (.int r)) g' := by
  refine hM.of (by decide) (Nat.le_of_ble_eq_true rfl) (fun K hl C hin hsz => ?_)
  subst hl
  subst hsz
  have C : VC K E 3 cX9_with RX9 (some .int) := C
  unfold fX9_with at hf
  refine V.start (L' := [(0, .int a0), (1, .int a1), (2, .int a2)]) rfl ?_
  refine V.iload_n (pc := 0) C dX9_with_0 2 rfl ?_
  refine V.iconst (pc := 1) C dX9_with_1 (v := (1 : Int32)) (by decide) ?_
  refine V.icmp_ne (pc := 2) (t := 13) C dX9_with_2 (by decide) (fun c1 => ?_) (fun c1 => ?_)
  · have hf := ite_f c1 hf
    refine V.iload_n (pc := 13) C dX9_with_13 0 rfl ?_
    refine V.iconst (pc := 14) C dX9_with_14 (v := (1 : Int32)) (by decide) ?_
    refine V.iload_n (pc := 15) C dX9_with_15 1 rfl ?_
    refine V.ishl (pc := 16) C dX9_with_16 ?_
    refine V.iconst (pc := 17) C dX9_with_17 (v := (-1 : Int32)) (by decide) ?_
    refine V.ixor (pc := 18) C dX9_with_18 ?_
    refine V.iand (pc := 19) C dX9_with_19 ?_
    cases hf
    exact V.iret (pc := 20) C rfl dX9_with_20
  have hf := ite_t c1 hf
  refine V.iload_n (pc := 5) C dX9_with_5 0 rfl ?_
  refine V.iconst (pc := 6) C dX9_with_6 (v := (1 : Int32)) (by decide) ?_
  refine V.iload_n (pc := 7) C dX9_with_7 1 rfl ?_
  refine V.ishl (pc := 8) C dX9_with_8 ?_
  refine V.ior (pc := 9) C dX9_with_9 ?_
  refine V.goto (pc := 10) (t := 20) C dX9_with_10 (by decide) ?_
  cases hf
  exact V.iret (pc := 20) C rfl dX9_with_20
theorem wd_1053 : Cond.fieldLink RX9 90 RX9 "wrong" "I" ∈ hw_tbl := hw_sub (List.mem_of_getElem? (i := 1170) (by decide +kernel)) rfl
theorem dX9_fails_0 : decode cX9_fails 0 = .ok (.aload_n 0, 1) := by decide +kernel
theorem dX9_fails_1 : decode cX9_fails 1 = .ok (.bipush 8, 2) := by decide +kernel
theorem dX9_fails_3 : decode cX9_fails 3 = .ok (.iload_n 2, 1) := by decide +kernel
theorem dX9_fails_4 : decode cX9_fails 4 = .ok (.imul, 1) := by decide +kernel
theorem dX9_fails_5 : decode cX9_fails 5 = .ok (.iload_n 1, 1) := by decide +kernel
theorem dX9_fails_6 : decode cX9_fails 6 = .ok (.iadd, 1) := by decide +kernel
theorem dX9_fails_7 : decode cX9_fails 7 = .ok (.putfield 90, 3) := by decide +kernel
theorem dX9_fails_10 : decode cX9_fails 10 = .ok (.iconst 0, 1) := by decide +kernel
theorem dX9_fails_11 : decode cX9_fails 11 = .ok (.ireturn, 1) := by decide +kernel
def fX9_fails (g : PH) (a0 : Nat) (a1 : Int32) (a2 : Int32) : Option (Int32 × PH) :=
  okb (isO g a0 9) ((putV g a0 9 3 (.int (((8 : Int32) * a2) + a1))).bind fun g1 =>
  (some ((0 : Int32), g1)))
theorem oX9_fails {g : PH} {a0 : Nat} {a1 : Int32} {a2 : Int32} {q : (Int32 × PH)} (h : fX9_fails g a0 a1 a2 = some q) : isO g a0 9 = true := by unfold fX9_fails at h; exact (okb_some h).1
theorem wd_1211 : Cond.code yX9_fails cX9_fails 3 (some .boolean) ∈ hw_tbl := hw_sub (List.mem_of_getElem? (i := 1328) (by decide +kernel)) rfl
theorem wd_1210 : Cond.instanceMethod yX9_fails ∈ hw_tbl := hw_sub (List.mem_of_getElem? (i := 1327) (by decide +kernel)) rfl
theorem ws_54 : Cond.selects RX9 yX9_fails yX9_fails ∈ hw_tbl := hw_sub (List.mem_of_getElem? (i := 54) (by decide +kernel)) rfl
theorem hyX9_fails : hMet yX9_fails RX9 cX9_fails 3 (some .boolean) 2 := ⟨wd_1211, wd_1210, ws_54, wd_7, rfl, by decide +kernel, by decide +kernel, by decide +kernel⟩
set_option maxHeartbeats 4000000 in
set_option maxRecDepth 100000 in
theorem mX9_fails (l : Launch) (E : HE) (sz : Nat) {g g' : PH} {a0 : Nat} {a1 : Int32} {a2 : Int32} {r : Int32} (hf : fX9_fails g a0 a1 a2 = some (r, g')) : hM l E yX9_fails cX9_fails 3 (some .boolean) 0 0 0 0 sz g [.ref a0, .int a1, .int a2] (some (.int r)) g' := by
  refine hM.of (by decide) (Nat.le_of_ble_eq_true rfl) (fun K hl C hin hsz => ?_)
  subst hl
  subst hsz
  have C : VC K E 3 cX9_fails RX9 (some .boolean) := C
  unfold fX9_fails at hf
  obtain ⟨ho, hf⟩ := okb_some hf
  refine V.start (L' := [(0, .ref a0), (1, .int a1), (2, .int a2)]) rfl ?_
  refine V.aload_n (pc := 0) C dX9_fails_0 0 rfl ?_
  refine V.bipush (pc := 1) C dX9_fails_1 (v := (8 : Int32)) (by decide) ?_
  refine V.iload_n (pc := 3) C dX9_fails_3 2 rfl ?_
  refine V.imul (pc := 4) C dX9_fails_4 ?_
  refine V.iload_n (pc := 5) C dX9_fails_5 1 rfl ?_
  refine V.iadd (pc := 6) C dX9_fails_6 ?_
  obtain ⟨g1, h2, hf⟩ := ob_some hf
  refine V.putX (pc := 7) C kX9 (k := 3) (by decide) wd_1053 rfl rfl rfl h2 dX9_fails_7 ?_
  refine V.iconst (pc := 10) C dX9_fails_10 (v := (0 : Int32)) (by decide) ?_
  cases hf
  exact V.zret (pc := 11) C rfl rfl dX9_fails_11
theorem wd_1051 : Cond.fieldLink RX9 82 RX9 "taped" "I" ∈ hw_tbl := hw_sub (List.mem_of_getElem? (i := 1168) (by decide +kernel)) rfl
theorem wd_1050 : Cond.fieldLink RX9 7 RX9 "tape" "[B" ∈ hw_tbl := hw_sub (List.mem_of_getElem? (i := 1167) (by decide +kernel)) rfl
theorem dX9_byteAt_0 : decode cX9_byteAt 0 = .ok (.iload_n 1, 1) := by decide +kernel
theorem dX9_byteAt_1 : decode cX9_byteAt 1 = .ok (.aload_n 0, 1) := by decide +kernel
theorem dX9_byteAt_2 : decode cX9_byteAt 2 = .ok (.getfield 82, 3) := by decide +kernel
theorem dX9_byteAt_5 : decode cX9_byteAt 5 = .ok (.if_icmp .ge 16, 3) := by decide +kernel
theorem dX9_byteAt_8 : decode cX9_byteAt 8 = .ok (.aload_n 0, 1) := by decide +kernel
theorem dX9_byteAt_9 : decode cX9_byteAt 9 = .ok (.getfield 7, 3) := by decide +kernel
theorem dX9_byteAt_12 : decode cX9_byteAt 12 = .ok (.iload_n 1, 1) := by decide +kernel
theorem dX9_byteAt_13 : decode cX9_byteAt 13 = .ok (.baload, 1) := by decide +kernel
theorem dX9_byteAt_14 : decode cX9_byteAt 14 = .ok (.sipush 255, 3) := by decide +kernel
theorem dX9_byteAt_17 : decode cX9_byteAt 17 = .ok (.iand, 1) := by decide +kernel
theorem dX9_byteAt_18 : decode cX9_byteAt 18 = .ok (.goto 4, 3) := by decide +kernel
theorem dX9_byteAt_21 : decode cX9_byteAt 21 = .ok (.iconst (-1), 1) := by decide +kernel
theorem dX9_byteAt_22 : decode cX9_byteAt 22 = .ok (.ireturn, 1) := by decide +kernel
def fX9_byteAt (g : PH) (a0 : Nat) (a1 : Int32) : Option (Int32 × PH) :=
  okb (isO g a0 9) ((getI g a0 9 1).bind fun x1 =>
  (if x1 ≤ a1 then (some ((-1 : Int32), g)) else
  ((getQ g a0 9 0).bind fun q4 =>
  (q4.bind fun a6 =>
  ((ldI g a6 1 a1).bind fun x8 =>
  (some ((x8 &&& (255 : Int32)), g)))))))
theorem oX9_byteAt {g : PH} {a0 : Nat} {a1 : Int32} {q : (Int32 × PH)} (h : fX9_byteAt g a0 a1 = some q) : isO g a0 9 = true := by unfold fX9_byteAt at h; exact (okb_some h).1
theorem wd_1204 : Cond.code yX9_byteAt cX9_byteAt 2 (some .int) ∈ hw_tbl := hw_sub (List.mem_of_getElem? (i := 1321) (by decide +kernel)) rfl
theorem wd_1203 : Cond.instanceMethod yX9_byteAt ∈ hw_tbl := hw_sub (List.mem_of_getElem? (i := 1320) (by decide +kernel)) rfl
theorem ws_53 : Cond.selects RX9 yX9_byteAt yX9_byteAt ∈ hw_tbl := hw_sub (List.mem_of_getElem? (i := 53) (by decide +kernel)) rfl
theorem hyX9_byteAt : hMet yX9_byteAt RX9 cX9_byteAt 2 (some .int) 1 := ⟨wd_1204, wd_1203, ws_53, wd_7, rfl, by decide +kernel, by decide +kernel, by decide +kernel⟩
set_option maxHeartbeats 4000000 in
set_option maxRecDepth 100000 in
theorem mX9_byteAt (l : Launch) (E : HE) (sz : Nat) {g g' : PH} {a0 : Nat} {a1 : Int32} {r : Int32} (hf : fX9_byteAt g a0 a1 = some (r, g')) : hM l E yX9_byteAt cX9_byteAt 2 (some .int) 0 0 0 0 sz g [.ref a0, .int a1] (some (.int r)) g' := by
  refine hM.of (by decide) (Nat.le_of_ble_eq_true rfl) (fun K hl C hin hsz => ?_)
  subst hl
  subst hsz
  have C : VC K E 2 cX9_byteAt RX9 (some .int) := C
  unfold fX9_byteAt at hf
  obtain ⟨ho, hf⟩ := okb_some hf
  refine V.start (L' := [(0, .ref a0), (1, .int a1)]) rfl ?_
  refine V.iload_n (pc := 0) C dX9_byteAt_0 1 rfl ?_
  refine V.aload_n (pc := 1) C dX9_byteAt_1 0 rfl ?_
  obtain ⟨x1, h2, hf⟩ := ob_some hf
  refine V.getI (pc := 2) C kX9 (k := 1) (by decide) wd_1051 h2 dX9_byteAt_2 ?_
  refine V.icmp_ge (pc := 5) (t := 21) C dX9_byteAt_5 (by decide) (fun c3 => ?_) (fun c3 => ?_)
  · have hf := ite_t c3 hf
    refine V.iconst (pc := 21) C dX9_byteAt_21 (v := (-1 : Int32)) (by decide) ?_
    cases hf
    exact V.iret (pc := 22) C rfl dX9_byteAt_22
  have hf := ite_f c3 hf
  refine V.aload_n (pc := 8) C dX9_byteAt_8 0 rfl ?_
  obtain ⟨q4, h5, hf⟩ := ob_some hf
  refine V.getQ (pc := 9) C kX9 (k := 0) (by decide) wd_1050 h5 dX9_byteAt_9 ?_
  refine V.iload_n (pc := 12) C dX9_byteAt_12 1 rfl ?_
  obtain ⟨a6, h7, hf⟩ := ob_some hf
  subst h7
  obtain ⟨x8, h9, hf⟩ := ob_some hf
  refine V.bald (pc := 13) C h9 dX9_byteAt_13 ?_
  refine V.sipush (pc := 14) C dX9_byteAt_14 (v := (255 : Int32)) (by decide) ?_
  refine V.iand (pc := 17) C dX9_byteAt_17 ?_
  refine V.goto (pc := 18) (t := 22) C dX9_byteAt_18 (by decide) ?_
  cases hf
  exact V.iret (pc := 22) C rfl dX9_byteAt_22
theorem wd_1052 : Cond.fieldLink RX9 93 RX9 "at" "I" ∈ hw_tbl := hw_sub (List.mem_of_getElem? (i := 1169) (by decide +kernel)) rfl
theorem wd_1201 : Cond.methodLink RX9 96 yX9_byteAt ∈ hw_tbl := hw_sub (List.mem_of_getElem? (i := 1318) (by decide +kernel)) rfl
theorem dX9_next_0 : decode cX9_next 0 = .ok (.aload_n 0, 1) := by decide +kernel
theorem dX9_next_1 : decode cX9_next 1 = .ok (.aload_n 0, 1) := by decide +kernel
theorem dX9_next_2 : decode cX9_next 2 = .ok (.getfield 93, 3) := by decide +kernel
theorem dX9_next_5 : decode cX9_next 5 = .ok (.invokevirtual 96, 3) := by decide +kernel
theorem dX9_next_8 : decode cX9_next 8 = .ok (.bipush 32, 2) := by decide +kernel
theorem dX9_next_10 : decode cX9_next 10 = .ok (.if_icmp .ne 16, 3) := by decide +kernel
theorem dX9_next_13 : decode cX9_next 13 = .ok (.aload_n 0, 1) := by decide +kernel
theorem dX9_next_14 : decode cX9_next 14 = .ok (.dup, 1) := by decide +kernel
theorem dX9_next_15 : decode cX9_next 15 = .ok (.getfield 93, 3) := by decide +kernel
theorem dX9_next_18 : decode cX9_next 18 = .ok (.iconst 1, 1) := by decide +kernel
theorem dX9_next_19 : decode cX9_next 19 = .ok (.iadd, 1) := by decide +kernel
theorem dX9_next_20 : decode cX9_next 20 = .ok (.putfield 93, 3) := by decide +kernel
theorem dX9_next_23 : decode cX9_next 23 = .ok (.goto (-23), 3) := by decide +kernel
theorem dX9_next_26 : decode cX9_next 26 = .ok (.aload_n 0, 1) := by decide +kernel
theorem dX9_next_27 : decode cX9_next 27 = .ok (.aload_n 0, 1) := by decide +kernel
theorem dX9_next_28 : decode cX9_next 28 = .ok (.getfield 93, 3) := by decide +kernel
theorem dX9_next_31 : decode cX9_next 31 = .ok (.invokevirtual 96, 3) := by decide +kernel
theorem dX9_next_34 : decode cX9_next 34 = .ok (.ireturn, 1) := by decide +kernel
def fX9_next_0  : Nat → PH → Nat → Option (Int32 × PH)
  | 0, _, _ => none
  | n + 1, g, v0 =>
  (getI g v0 9 2).bind fun x1 =>
  ((fX9_byteAt g v0 x1).bind fun q3 =>
  (if q3.1 = (32 : Int32) then ((getI q3.2 v0 9 2).bind fun x10 =>
  ((putV q3.2 v0 9 2 (.int (x10 + (1 : Int32)))).bind fun g12 =>
  (fX9_next_0 n g12 v0))) else
  ((getI q3.2 v0 9 2).bind fun x6 =>
  ((fX9_byteAt q3.2 v0 x6).bind fun q8 =>
  (some (q8.1, q8.2))))))
set_option maxHeartbeats 4000000 in
set_option maxRecDepth 100000 in
theorem bX9_next_0 {K : HK} {E : HE} {r : Int32} {g' : PH}  (C : VC K E 1 cX9_next RX9 (some .int))  : ∀ (n : Nat) (g : PH) (v0 : Nat), fX9_next_0  n g v0 = some (r, g') → V K E (hRm 1 21 0 0) 1 (hZ K E (some (.int r)) g' 0 0) 0 0 (kS K) g 0 [(0, .ref v0)] [] := by
  intro n
  induction n with
  | zero =>
    intro g v0 hf
    rw [fX9_next_0] at hf
    cases hf
  | succ n ih =>
    intro g v0 hf
    rw [fX9_next_0] at hf
    refine V.aload_n (pc := 0) C dX9_next_0 0 rfl ?_
    refine V.aload_n (pc := 1) C dX9_next_1 0 rfl ?_
    obtain ⟨x1, h2, hf⟩ := ob_some hf
    refine V.getI (pc := 2) C kX9 (k := 2) (by decide) wd_1052 h2 dX9_next_2 ?_
    obtain ⟨q3, h4, hf⟩ := ob_some hf
    refine V.callV0i (pc := 5) C hyX9_byteAt wd_1201 (mX9_byteAt (r := q3.1) (g' := q3.2) K.2.1 E (kS K) h4) rfl rfl rfl (oX9_byteAt h4) ⟨Nat.le_of_ble_eq_true rfl, Nat.le_of_ble_eq_true rfl⟩ (Nat.le_of_ble_eq_true rfl) dX9_next_5 ⟨Nat.zero_le _, Nat.zero_le _⟩ rfl ?_
    refine V.bipush (pc := 8) C dX9_next_8 (v := (32 : Int32)) (by decide) ?_
    refine V.icmp_ne (pc := 10) (t := 26) C dX9_next_10 (by decide) (fun c5 => ?_) (fun c5 => ?_)
    · have hf := ite_f c5 hf
      refine V.aload_n (pc := 26) C dX9_next_26 0 rfl ?_
      refine V.aload_n (pc := 27) C dX9_next_27 0 rfl ?_
      obtain ⟨x6, h7, hf⟩ := ob_some hf
      refine V.getI (pc := 28) C kX9 (k := 2) (by decide) wd_1052 h7 dX9_next_28 ?_
      obtain ⟨q8, h9, hf⟩ := ob_some hf
      refine V.callV0i (pc := 31) C hyX9_byteAt wd_1201 (mX9_byteAt (r := q8.1) (g' := q8.2) K.2.1 E (kS K) h9) rfl rfl rfl (oX9_byteAt h9) ⟨Nat.le_of_ble_eq_true rfl, Nat.le_of_ble_eq_true rfl⟩ (Nat.le_of_ble_eq_true rfl) dX9_next_31 ⟨Nat.zero_le _, Nat.zero_le _⟩ rfl ?_
      cases hf
      exact V.iret (pc := 34) C rfl dX9_next_34
    have hf := ite_t c5 hf
    refine V.aload_n (pc := 13) C dX9_next_13 0 rfl ?_
    refine V.dup (pc := 14) C dX9_next_14 rfl ?_
    obtain ⟨x10, h11, hf⟩ := ob_some hf
    refine V.getI (pc := 15) C kX9 (k := 2) (by decide) wd_1052 h11 dX9_next_15 ?_
    refine V.iconst (pc := 18) C dX9_next_18 (v := (1 : Int32)) (by decide) ?_
    refine V.iadd (pc := 19) C dX9_next_19 ?_
    obtain ⟨g12, h13, hf⟩ := ob_some hf
    refine V.putX (pc := 20) C kX9 (k := 2) (by decide) wd_1052 rfl rfl rfl h13 dX9_next_20 ?_
    refine V.goto (pc := 23) (t := 0) C dX9_next_23 (by decide) ?_
    refine V.sub (L' := [(0, .ref v0)]) [0] rfl ?_
    exact ih _ _ hf
def fX9_next (g : PH) (a0 : Nat) : Option (Int32 × PH) :=
  okb (isO g a0 9) (fX9_next_0 FUEL g a0)
theorem oX9_next {g : PH} {a0 : Nat} {q : (Int32 × PH)} (h : fX9_next g a0 = some q) : isO g a0 9 = true := by unfold fX9_next at h; exact (okb_some h).1
theorem wd_1200 : Cond.code yX9_next cX9_next 1 (some .int) ∈ hw_tbl := hw_sub (List.mem_of_getElem? (i := 1317) (by decide +kernel)) rfl
theorem wd_1199 : Cond.instanceMethod yX9_next ∈ hw_tbl := hw_sub (List.mem_of_getElem? (i := 1316) (by decide +kernel)) rfl
theorem ws_52 : Cond.selects RX9 yX9_next yX9_next ∈ hw_tbl := hw_sub (List.mem_of_getElem? (i := 52) (by decide +kernel)) rfl
theorem hyX9_next : hMet yX9_next RX9 cX9_next 1 (some .int) 0 := ⟨wd_1200, wd_1199, ws_52, wd_7, rfl, by decide +kernel, by decide +kernel, by decide +kernel⟩
set_option maxHeartbeats 4000000 in
set_option maxRecDepth 100000 in
theorem mX9_next (l : Launch) (E : HE) (sz : Nat) {g g' : PH} {a0 : Nat} {r : Int32} (hf : fX9_next g a0 = some (r, g')) : hM l E yX9_next cX9_next 1 (some .int) 1 21 0 0 sz g [.ref a0] (some (.int r)) g' := by
  refine hM.of (by decide) (Nat.le_of_ble_eq_true rfl) (fun K hl C hin hsz => ?_)
  subst hl
  subst hsz
  have C : VC K E 1 cX9_next RX9 (some .int) := C
  unfold fX9_next at hf
  obtain ⟨ho, hf⟩ := okb_some hf
  refine V.start (L' := [(0, .ref a0)]) rfl ?_
  refine V.sub (L' := [(0, .ref a0)]) [0] rfl ?_
  exact bX9_next_0 C  _ _ _ hf
theorem wd_1197 : Cond.methodLink RX9 100 yX9_next ∈ hw_tbl := hw_sub (List.mem_of_getElem? (i := 1314) (by decide +kernel)) rfl
theorem dX9_takes_0 : decode cX9_takes 0 = .ok (.aload_n 0, 1) := by decide +kernel
theorem dX9_takes_1 : decode cX9_takes 1 = .ok (.invokevirtual 100, 3) := by decide +kernel
theorem dX9_takes_4 : decode cX9_takes 4 = .ok (.iload_n 1, 1) := by decide +kernel
theorem dX9_takes_5 : decode cX9_takes 5 = .ok (.if_icmp .eq 5, 3) := by decide +kernel
theorem dX9_takes_8 : decode cX9_takes 8 = .ok (.iconst 0, 1) := by decide +kernel
theorem dX9_takes_9 : decode cX9_takes 9 = .ok (.ireturn, 1) := by decide +kernel
theorem dX9_takes_10 : decode cX9_takes 10 = .ok (.aload_n 0, 1) := by decide +kernel
theorem dX9_takes_11 : decode cX9_takes 11 = .ok (.dup, 1) := by decide +kernel
theorem dX9_takes_12 : decode cX9_takes 12 = .ok (.getfield 93, 3) := by decide +kernel
theorem dX9_takes_15 : decode cX9_takes 15 = .ok (.iconst 1, 1) := by decide +kernel
theorem dX9_takes_16 : decode cX9_takes 16 = .ok (.iadd, 1) := by decide +kernel
theorem dX9_takes_17 : decode cX9_takes 17 = .ok (.putfield 93, 3) := by decide +kernel
theorem dX9_takes_20 : decode cX9_takes 20 = .ok (.iconst 1, 1) := by decide +kernel
theorem dX9_takes_21 : decode cX9_takes 21 = .ok (.ireturn, 1) := by decide +kernel
def fX9_takes (g : PH) (a0 : Nat) (a1 : Int32) : Option (Int32 × PH) :=
  okb (isO g a0 9) ((fX9_next g a0).bind fun q1 =>
  (if q1.1 = a1 then ((getI q1.2 a0 9 2).bind fun x4 =>
  ((putV q1.2 a0 9 2 (.int (x4 + (1 : Int32)))).bind fun g6 =>
  (some ((1 : Int32), g6)))) else
  (some ((0 : Int32), q1.2))))
theorem oX9_takes {g : PH} {a0 : Nat} {a1 : Int32} {q : (Int32 × PH)} (h : fX9_takes g a0 a1 = some q) : isO g a0 9 = true := by unfold fX9_takes at h; exact (okb_some h).1
theorem wd_1235 : Cond.code yX9_takes cX9_takes 2 (some .boolean) ∈ hw_tbl := hw_sub (List.mem_of_getElem? (i := 1352) (by decide +kernel)) rfl
theorem wd_1234 : Cond.instanceMethod yX9_takes ∈ hw_tbl := hw_sub (List.mem_of_getElem? (i := 1351) (by decide +kernel)) rfl
theorem ws_60 : Cond.selects RX9 yX9_takes yX9_takes ∈ hw_tbl := hw_sub (List.mem_of_getElem? (i := 60) (by decide +kernel)) rfl
theorem hyX9_takes : hMet yX9_takes RX9 cX9_takes 2 (some .boolean) 1 := ⟨wd_1235, wd_1234, ws_60, wd_7, rfl, by decide +kernel, by decide +kernel, by decide +kernel⟩
set_option maxHeartbeats 4000000 in
set_option maxRecDepth 100000 in
theorem mX9_takes (l : Launch) (E : HE) (sz : Nat) {g g' : PH} {a0 : Nat} {a1 : Int32} {r : Int32} (hf : fX9_takes g a0 a1 = some (r, g')) : hM l E yX9_takes cX9_takes 2 (some .boolean) 2 41 0 0 sz g [.ref a0, .int a1] (some (.int r)) g' := by
  refine hM.of (by decide) (Nat.le_of_ble_eq_true rfl) (fun K hl C hin hsz => ?_)
  subst hl
  subst hsz
  have C : VC K E 2 cX9_takes RX9 (some .boolean) := C
  unfold fX9_takes at hf
  obtain ⟨ho, hf⟩ := okb_some hf
  refine V.start (L' := [(0, .ref a0), (1, .int a1)]) rfl ?_
  refine V.aload_n (pc := 0) C dX9_takes_0 0 rfl ?_
  obtain ⟨q1, h2, hf⟩ := ob_some hf
  refine V.callV0i (pc := 1) C hyX9_next wd_1197 (mX9_next (r := q1.1) (g' := q1.2) K.2.1 E (kS K) h2) rfl rfl rfl (oX9_next h2) ⟨Nat.le_of_ble_eq_true rfl, Nat.le_of_ble_eq_true rfl⟩ (Nat.le_of_ble_eq_true rfl) dX9_takes_1 ⟨Nat.zero_le _, Nat.zero_le _⟩ rfl ?_
  refine V.iload_n (pc := 4) C dX9_takes_4 1 rfl ?_
  refine V.icmp_eq (pc := 5) (t := 10) C dX9_takes_5 (by decide) (fun c3 => ?_) (fun c3 => ?_)
  · have hf := ite_t c3 hf
    refine V.aload_n (pc := 10) C dX9_takes_10 0 rfl ?_
    refine V.dup (pc := 11) C dX9_takes_11 rfl ?_
    obtain ⟨x4, h5, hf⟩ := ob_some hf
    refine V.getI (pc := 12) C kX9 (k := 2) (by decide) wd_1052 h5 dX9_takes_12 ?_
    refine V.iconst (pc := 15) C dX9_takes_15 (v := (1 : Int32)) (by decide) ?_
    refine V.iadd (pc := 16) C dX9_takes_16 ?_
    obtain ⟨g6, h7, hf⟩ := ob_some hf
    refine V.putX (pc := 17) C kX9 (k := 2) (by decide) wd_1052 rfl rfl rfl h7 dX9_takes_17 ?_
    refine V.iconst (pc := 20) C dX9_takes_20 (v := (1 : Int32)) (by decide) ?_
    cases hf
    exact V.zret (pc := 21) C rfl rfl dX9_takes_21
  have hf := ite_f c3 hf
  refine V.iconst (pc := 8) C dX9_takes_8 (v := (0 : Int32)) (by decide) ?_
  cases hf
  exact V.zret (pc := 9) C rfl rfl dX9_takes_9
theorem wd_1232 : Cond.methodLink RX9 104 yX9_takes ∈ hw_tbl := hw_sub (List.mem_of_getElem? (i := 1349) (by decide +kernel)) rfl
theorem wd_1208 : Cond.methodLink RX9 108 yX9_fails ∈ hw_tbl := hw_sub (List.mem_of_getElem? (i := 1325) (by decide +kernel)) rfl
theorem dX9_needs_0 : decode cX9_needs 0 = .ok (.aload_n 0, 1) := by decide +kernel
theorem dX9_needs_1 : decode cX9_needs 1 = .ok (.iload_n 1, 1) := by decide +kernel
theorem dX9_needs_2 : decode cX9_needs 2 = .ok (.invokevirtual 104, 3) := by decide +kernel
theorem dX9_needs_5 : decode cX9_needs 5 = .ok (.ifCond .ne 15, 3) := by decide +kernel
theorem dX9_needs_8 : decode cX9_needs 8 = .ok (.aload_n 0, 1) := by decide +kernel
theorem dX9_needs_9 : decode cX9_needs 9 = .ok (.iconst 1, 1) := by decide +kernel
theorem dX9_needs_10 : decode cX9_needs 10 = .ok (.aload_n 0, 1) := by decide +kernel
theorem dX9_needs_11 : decode cX9_needs 11 = .ok (.getfield 93, 3) := by decide +kernel
theorem dX9_needs_14 : decode cX9_needs 14 = .ok (.invokevirtual 108, 3) := by decide +kernel
theorem dX9_needs_17 : decode cX9_needs 17 = .ok (.ifCond .eq 7, 3) := by decide +kernel
theorem dX9_needs_20 : decode cX9_needs 20 = .ok (.iconst 1, 1) := by decide +kernel
theorem dX9_needs_21 : decode cX9_needs 21 = .ok (.goto 4, 3) := by decide +kernel
theorem dX9_needs_24 : decode cX9_needs 24 = .ok (.iconst 0, 1) := by decide +kernel
theorem dX9_needs_25 : decode cX9_needs 25 = .ok (.ireturn, 1) := by decide +kernel
def fX9_needs (g : PH) (a0 : Nat) (a1 : Int32) : Option (Int32 × PH) :=
  okb (isO g a0 9) ((fX9_takes g a0 a1).bind fun q1 =>
  (if q1.1 = 0 then ((getI q1.2 a0 9 2).bind fun x4 =>
  ((fX9_fails q1.2 a0 (1 : Int32) x4).bind fun q6 =>
  (if q6.1 = 0 then (some ((0 : Int32), q6.2)) else
  (some ((1 : Int32), q6.2))))) else
  (some ((1 : Int32), q1.2))))
theorem oX9_needs {g : PH} {a0 : Nat} {a1 : Int32} {q : (Int32 × PH)} (h : fX9_needs g a0 a1 = some q) : isO g a0 9 = true := by unfold fX9_needs at h; exact (okb_some h).1
theorem wd_1239 : Cond.code yX9_needs cX9_needs 2 (some .boolean) ∈ hw_tbl := hw_sub (List.mem_of_getElem? (i := 1356) (by decide +kernel)) rfl
theorem wd_1238 : Cond.instanceMethod yX9_needs ∈ hw_tbl := hw_sub (List.mem_of_getElem? (i := 1355) (by decide +kernel)) rfl
theorem ws_61 : Cond.selects RX9 yX9_needs yX9_needs ∈ hw_tbl := hw_sub (List.mem_of_getElem? (i := 61) (by decide +kernel)) rfl
theorem hyX9_needs : hMet yX9_needs RX9 cX9_needs 2 (some .boolean) 1 := ⟨wd_1239, wd_1238, ws_61, wd_7, rfl, by decide +kernel, by decide +kernel, by decide +kernel⟩
set_option maxHeartbeats 4000000 in
set_option maxRecDepth 100000 in
theorem mX9_needs (l : Launch) (E : HE) (sz : Nat) {g g' : PH} {a0 : Nat} {a1 : Int32} {r : Int32} (hf : fX9_needs g a0 a1 = some (r, g')) : hM l E yX9_needs cX9_needs 2 (some .boolean) 3 62 0 0 sz g [.ref a0, .int a1] (some (.int r)) g' := by
  refine hM.of (by decide) (Nat.le_of_ble_eq_true rfl) (fun K hl C hin hsz => ?_)
  subst hl
  subst hsz
  have C : VC K E 2 cX9_needs RX9 (some .boolean) := C
  unfold fX9_needs at hf
  obtain ⟨ho, hf⟩ := okb_some hf
  refine V.start (L' := [(0, .ref a0), (1, .int a1)]) rfl ?_
  refine V.aload_n (pc := 0) C dX9_needs_0 0 rfl ?_
  refine V.iload_n (pc := 1) C dX9_needs_1 1 rfl ?_
  obtain ⟨q1, h2, hf⟩ := ob_some hf
  refine V.callV0i (pc := 2) C hyX9_takes wd_1232 (mX9_takes (r := q1.1) (g' := q1.2) K.2.1 E (kS K) h2) rfl rfl rfl (oX9_takes h2) ⟨Nat.le_of_ble_eq_true rfl, Nat.le_of_ble_eq_true rfl⟩ (Nat.le_of_ble_eq_true rfl) dX9_needs_2 ⟨Nat.zero_le _, Nat.zero_le _⟩ rfl ?_
  refine V.if_ne (pc := 5) (t := 20) C dX9_needs_5 (by decide) (fun c3 => ?_) (fun c3 => ?_)
  · have hf := ite_f c3 hf
    refine V.iconst (pc := 20) C dX9_needs_20 (v := (1 : Int32)) (by decide) ?_
    refine V.goto (pc := 21) (t := 25) C dX9_needs_21 (by decide) ?_
    cases hf
    exact V.zret (pc := 25) C rfl rfl dX9_needs_25
  have hf := ite_t c3 hf
  refine V.aload_n (pc := 8) C dX9_needs_8 0 rfl ?_
  refine V.iconst (pc := 9) C dX9_needs_9 (v := (1 : Int32)) (by decide) ?_
  refine V.aload_n (pc := 10) C dX9_needs_10 0 rfl ?_
  obtain ⟨x4, h5, hf⟩ := ob_some hf
  refine V.getI (pc := 11) C kX9 (k := 2) (by decide) wd_1052 h5 dX9_needs_11 ?_
  obtain ⟨q6, h7, hf⟩ := ob_some hf
  refine V.callV0i (pc := 14) C hyX9_fails wd_1208 (mX9_fails (r := q6.1) (g' := q6.2) K.2.1 E (kS K) h7) rfl rfl rfl (oX9_fails h7) ⟨Nat.le_of_ble_eq_true rfl, Nat.le_of_ble_eq_true rfl⟩ (Nat.le_of_ble_eq_true rfl) dX9_needs_14 ⟨Nat.zero_le _, Nat.zero_le _⟩ rfl ?_
  refine V.if_eq (pc := 17) (t := 24) C dX9_needs_17 (by decide) (fun c8 => ?_) (fun c8 => ?_)
  · have hf := ite_t c8 hf
    refine V.iconst (pc := 24) C dX9_needs_24 (v := (0 : Int32)) (by decide) ?_
    cases hf
    exact V.zret (pc := 25) C rfl rfl dX9_needs_25
  have hf := ite_f c8 hf
  refine V.iconst (pc := 20) C dX9_needs_20 (v := (1 : Int32)) (by decide) ?_
  refine V.goto (pc := 21) (t := 25) C dX9_needs_21 (by decide) ?_
  cases hf
  exact V.zret (pc := 25) C rfl rfl dX9_needs_25
theorem wd_1054 : Cond.fieldLink RX9 112 RX9 "digit" "I" ∈ hw_tbl := hw_sub (List.mem_of_getElem? (i := 1171) (by decide +kernel)) rfl
theorem dX9_readsDigit_0 : decode cX9_readsDigit 0 = .ok (.aload_n 0, 1) := by decide +kernel
theorem dX9_readsDigit_1 : decode cX9_readsDigit 1 = .ok (.invokevirtual 100, 3) := by decide +kernel
theorem dX9_readsDigit_4 : decode cX9_readsDigit 4 = .ok (.istore_n 2, 1) := by decide +kernel
theorem dX9_readsDigit_5 : decode cX9_readsDigit 5 = .ok (.iload_n 2, 1) := by decide +kernel
theorem dX9_readsDigit_6 : decode cX9_readsDigit 6 = .ok (.bipush 48, 2) := by decide +kernel
theorem dX9_readsDigit_8 : decode cX9_readsDigit 8 = .ok (.if_icmp .eq 29, 3) := by decide +kernel
theorem dX9_readsDigit_11 : decode cX9_readsDigit 11 = .ok (.iload_n 2, 1) := by decide +kernel
theorem dX9_readsDigit_12 : decode cX9_readsDigit 12 = .ok (.bipush 49, 2) := by decide +kernel
theorem dX9_readsDigit_14 : decode cX9_readsDigit 14 = .ok (.if_icmp .eq 23, 3) := by decide +kernel
theorem dX9_readsDigit_17 : decode cX9_readsDigit 17 = .ok (.iload_n 2, 1) := by decide +kernel
theorem dX9_readsDigit_18 : decode cX9_readsDigit 18 = .ok (.bipush 120, 2) := by decide +kernel
theorem dX9_readsDigit_20 : decode cX9_readsDigit 20 = .ok (.if_icmp .ne 7, 3) := by decide +kernel
theorem dX9_readsDigit_23 : decode cX9_readsDigit 23 = .ok (.iload_n 1, 1) := by decide +kernel
theorem dX9_readsDigit_24 : decode cX9_readsDigit 24 = .ok (.ifCond .ne 13, 3) := by decide +kernel
theorem dX9_readsDigit_27 : decode cX9_readsDigit 27 = .ok (.aload_n 0, 1) := by decide +kernel
theorem dX9_readsDigit_28 : decode cX9_readsDigit 28 = .ok (.iconst 1, 1) := by decide +kernel
theorem dX9_readsDigit_29 : decode cX9_readsDigit 29 = .ok (.aload_n 0, 1) := by decide +kernel
theorem dX9_readsDigit_30 : decode cX9_readsDigit 30 = .ok (.getfield 93, 3) := by decide +kernel
theorem dX9_readsDigit_33 : decode cX9_readsDigit 33 = .ok (.invokevirtual 108, 3) := by decide +kernel
theorem dX9_readsDigit_36 : decode cX9_readsDigit 36 = .ok (.ireturn, 1) := by decide +kernel
theorem dX9_readsDigit_37 : decode cX9_readsDigit 37 = .ok (.aload_n 0, 1) := by decide +kernel
theorem dX9_readsDigit_38 : decode cX9_readsDigit 38 = .ok (.iload_n 2, 1) := by decide +kernel
theorem dX9_readsDigit_39 : decode cX9_readsDigit 39 = .ok (.bipush 120, 2) := by decide +kernel
theorem dX9_readsDigit_41 : decode cX9_readsDigit 41 = .ok (.if_icmp .ne 7, 3) := by decide +kernel
theorem dX9_readsDigit_44 : decode cX9_readsDigit 44 = .ok (.iconst 2, 1) := by decide +kernel
theorem dX9_readsDigit_45 : decode cX9_readsDigit 45 = .ok (.goto 7, 3) := by decide +kernel
theorem dX9_readsDigit_48 : decode cX9_readsDigit 48 = .ok (.iload_n 2, 1) := by decide +kernel
theorem dX9_readsDigit_49 : decode cX9_readsDigit 49 = .ok (.bipush 48, 2) := by decide +kernel
theorem dX9_readsDigit_51 : decode cX9_readsDigit 51 = .ok (.isub, 1) := by decide +kernel
theorem dX9_readsDigit_52 : decode cX9_readsDigit 52 = .ok (.putfield 112, 3) := by decide +kernel
theorem dX9_readsDigit_55 : decode cX9_readsDigit 55 = .ok (.aload_n 0, 1) := by decide +kernel
theorem dX9_readsDigit_56 : decode cX9_readsDigit 56 = .ok (.dup, 1) := by decide +kernel
theorem dX9_readsDigit_57 : decode cX9_readsDigit 57 = .ok (.getfield 93, 3) := by decide +kernel
theorem dX9_readsDigit_60 : decode cX9_readsDigit 60 = .ok (.iconst 1, 1) := by decide +kernel
theorem dX9_readsDigit_61 : decode cX9_readsDigit 61 = .ok (.iadd, 1) := by decide +kernel
theorem dX9_readsDigit_62 : decode cX9_readsDigit 62 = .ok (.putfield 93, 3) := by decide +kernel
theorem dX9_readsDigit_65 : decode cX9_readsDigit 65 = .ok (.iconst 1, 1) := by decide +kernel
theorem dX9_readsDigit_66 : decode cX9_readsDigit 66 = .ok (.ireturn, 1) := by decide +kernel
def fX9_readsDigit_27  (g : PH) (v0 : Nat) : Option (Int32 × PH) :=
  (getI g v0 9 2).bind fun x1 =>
  ((fX9_fails g v0 (1 : Int32) x1).bind fun q3 =>
  (okb (vp_nar .boolean q3.1 == q3.1) (some (q3.1, q3.2))))
set_option maxHeartbeats 4000000 in
set_option maxRecDepth 100000 in
theorem bX9_readsDigit_27 {K : HK} {E : HE} {r : Int32} {g' : PH}  (C : VC K E 3 cX9_readsDigit RX9 (some .boolean))  {g : PH} {v0 : Nat} (hf : fX9_readsDigit_27  g v0 = some (r, g')) : V K E (hRm 2 41 0 0) 3 (hZ K E (some (.int r)) g' 0 0) 0 0 (kS K) g 27 [(0, .ref v0)] [] := by
  unfold fX9_readsDigit_27 at hf
  refine V.aload_n (pc := 27) C dX9_readsDigit_27 0 rfl ?_
  refine V.iconst (pc := 28) C dX9_readsDigit_28 (v := (1 : Int32)) (by decide) ?_
  refine V.aload_n (pc := 29) C dX9_readsDigit_29 0 rfl ?_
  obtain ⟨x1, h2, hf⟩ := ob_some hf
  refine V.getI (pc := 30) C kX9 (k := 2) (by decide) wd_1052 h2 dX9_readsDigit_30 ?_
  obtain ⟨q3, h4, hf⟩ := ob_some hf
  refine V.callV0i (pc := 33) C hyX9_fails wd_1208 (mX9_fails (r := q3.1) (g' := q3.2) K.2.1 E (kS K) h4) rfl rfl rfl (oX9_fails h4) ⟨Nat.le_of_ble_eq_true rfl, Nat.le_of_ble_eq_true rfl⟩ (Nat.le_of_ble_eq_true rfl) dX9_readsDigit_33 ⟨Nat.zero_le _, Nat.zero_le _⟩ rfl ?_
  obtain ⟨h5, hf⟩ := okb_some hf
  cases hf
  exact V.zret (pc := 36) C (nar_z (eq_of_beq h5)) rfl dX9_readsDigit_36
def fX9_readsDigit_52  (g : PH) (v0 : Nat) (s0 : Int32) (s1 : Nat) : Option (Int32 × PH) :=
  (putV g s1 9 4 (.int s0)).bind fun g1 =>
  ((getI g1 v0 9 2).bind fun x3 =>
  ((putV g1 v0 9 2 (.int (x3 + (1 : Int32)))).bind fun g5 =>
  (some ((1 : Int32), g5))))
set_option maxHeartbeats 4000000 in
set_option maxRecDepth 100000 in
theorem bX9_readsDigit_52 {K : HK} {E : HE} {r : Int32} {g' : PH}  (C : VC K E 3 cX9_readsDigit RX9 (some .boolean))  {g : PH} {v0 : Nat} {s0 : Int32} {s1 : Nat} (hf : fX9_readsDigit_52  g v0 s0 s1 = some (r, g')) : V K E (hRm 2 41 0 0) 3 (hZ K E (some (.int r)) g' 0 0) 0 0 (kS K) g 52 [(0, .ref v0)] [.int s0, .ref s1] := by
  unfold fX9_readsDigit_52 at hf
  obtain ⟨g1, h2, hf⟩ := ob_some hf
  refine V.putX (pc := 52) C kX9 (k := 4) (by decide) wd_1054 rfl rfl rfl h2 dX9_readsDigit_52 ?_
  refine V.aload_n (pc := 55) C dX9_readsDigit_55 0 rfl ?_
  refine V.dup (pc := 56) C dX9_readsDigit_56 rfl ?_
  obtain ⟨x3, h4, hf⟩ := ob_some hf
  refine V.getI (pc := 57) C kX9 (k := 2) (by decide) wd_1052 h4 dX9_readsDigit_57 ?_
  refine V.iconst (pc := 60) C dX9_readsDigit_60 (v := (1 : Int32)) (by decide) ?_
  refine V.iadd (pc := 61) C dX9_readsDigit_61 ?_
  obtain ⟨g5, h6, hf⟩ := ob_some hf
  refine V.putX (pc := 62) C kX9 (k := 2) (by decide) wd_1052 rfl rfl rfl h6 dX9_readsDigit_62 ?_
  refine V.iconst (pc := 65) C dX9_readsDigit_65 (v := (1 : Int32)) (by decide) ?_
  cases hf
  exact V.zret (pc := 66) C rfl rfl dX9_readsDigit_66
def fX9_readsDigit_37  (g : PH) (v0 : Nat) (v2 : Int32) : Option (Int32 × PH) :=
  if v2 = (120 : Int32) then (fX9_readsDigit_52 g v0 (2 : Int32) v0) else
  (fX9_readsDigit_52 g v0 (v2 - (48 : Int32)) v0)
set_option maxHeartbeats 4000000 in
set_option maxRecDepth 100000 in
theorem bX9_readsDigit_37 {K : HK} {E : HE} {r : Int32} {g' : PH}  (C : VC K E 3 cX9_readsDigit RX9 (some .boolean))  {g : PH} {v0 : Nat} {v2 : Int32} (hf : fX9_readsDigit_37  g v0 v2 = some (r, g')) : V K E (hRm 2 41 0 0) 3 (hZ K E (some (.int r)) g' 0 0) 0 0 (kS K) g 37 [(0, .ref v0), (2, .int v2)] [] := by
  unfold fX9_readsDigit_37 at hf
  refine V.aload_n (pc := 37) C dX9_readsDigit_37 0 rfl ?_
  refine V.iload_n (pc := 38) C dX9_readsDigit_38 1 rfl ?_
  refine V.bipush (pc := 39) C dX9_readsDigit_39 (v := (120 : Int32)) (by decide) ?_
  refine V.icmp_ne (pc := 41) (t := 48) C dX9_readsDigit_41 (by decide) (fun c1 => ?_) (fun c1 => ?_)
  · have hf := ite_f c1 hf
    refine V.iload_n (pc := 48) C dX9_readsDigit_48 1 rfl ?_
    refine V.bipush (pc := 49) C dX9_readsDigit_49 (v := (48 : Int32)) (by decide) ?_
    refine V.isub (pc := 51) C dX9_readsDigit_51 ?_
    refine V.sub (L' := [(0, .ref v0)]) [0] rfl ?_
    exact bX9_readsDigit_52 C  hf
  have hf := ite_t c1 hf
  refine V.iconst (pc := 44) C dX9_readsDigit_44 (v := (2 : Int32)) (by decide) ?_
  refine V.goto (pc := 45) (t := 52) C dX9_readsDigit_45 (by decide) ?_
  refine V.sub (L' := [(0, .ref v0)]) [0] rfl ?_
  exact bX9_readsDigit_52 C  hf
def fX9_readsDigit (g : PH) (a0 : Nat) (a1 : Int32) : Option (Int32 × PH) :=
  okb (isO g a0 9) ((fX9_next g a0).bind fun q1 =>
  (if q1.1 = (48 : Int32) then (fX9_readsDigit_37 q1.2 a0 q1.1) else
  (if q1.1 = (49 : Int32) then (fX9_readsDigit_37 q1.2 a0 q1.1) else
  (if q1.1 = (120 : Int32) then (if a1 = 0 then (fX9_readsDigit_27 q1.2 a0) else
  (fX9_readsDigit_37 q1.2 a0 q1.1)) else
  (fX9_readsDigit_27 q1.2 a0)))))
theorem oX9_readsDigit {g : PH} {a0 : Nat} {a1 : Int32} {q : (Int32 × PH)} (h : fX9_readsDigit g a0 a1 = some q) : isO g a0 9 = true := by unfold fX9_readsDigit at h; exact (okb_some h).1
theorem wd_1231 : Cond.code yX9_readsDigit cX9_readsDigit 3 (some .boolean) ∈ hw_tbl := hw_sub (List.mem_of_getElem? (i := 1348) (by decide +kernel)) rfl
theorem wd_1230 : Cond.instanceMethod yX9_readsDigit ∈ hw_tbl := hw_sub (List.mem_of_getElem? (i := 1347) (by decide +kernel)) rfl
theorem ws_59 : Cond.selects RX9 yX9_readsDigit yX9_readsDigit ∈ hw_tbl := hw_sub (List.mem_of_getElem? (i := 59) (by decide +kernel)) rfl
theorem hyX9_readsDigit : hMet yX9_readsDigit RX9 cX9_readsDigit 3 (some .boolean) 1 := ⟨wd_1231, wd_1230, ws_59, wd_7, rfl, by decide +kernel, by decide +kernel, by decide +kernel⟩
set_option maxHeartbeats 4000000 in
set_option maxRecDepth 100000 in
theorem mX9_readsDigit (l : Launch) (E : HE) (sz : Nat) {g g' : PH} {a0 : Nat} {a1 : Int32} {r : Int32} (hf : fX9_readsDigit g a0 a1 = some (r, g')) : hM l E yX9_readsDigit cX9_readsDigit 3 (some .boolean) 2 41 0 0 sz g [.ref a0, .int a1] (some (.int r)) g' := by
  refine hM.of (by decide) (Nat.le_of_ble_eq_true rfl) (fun K hl C hin hsz => ?_)
  subst hl
  subst hsz
  have C : VC K E 3 cX9_readsDigit RX9 (some .boolean) := C
  unfold fX9_readsDigit at hf
  obtain ⟨ho, hf⟩ := okb_some hf
  refine V.start (L' := [(0, .ref a0), (1, .int a1)]) rfl ?_
  refine V.aload_n (pc := 0) C dX9_readsDigit_0 0 rfl ?_
  obtain ⟨q1, h2, hf⟩ := ob_some hf
  refine V.callV0i (pc := 1) C hyX9_next wd_1197 (mX9_next (r := q1.1) (g' := q1.2) K.2.1 E (kS K) h2) rfl rfl rfl (oX9_next h2) ⟨Nat.le_of_ble_eq_true rfl, Nat.le_of_ble_eq_true rfl⟩ (Nat.le_of_ble_eq_true rfl) dX9_readsDigit_1 ⟨Nat.zero_le _, Nat.zero_le _⟩ rfl ?_
  refine V.istore_n (pc := 4) (L' := [(2, .int q1.1), (0, .ref a0), (1, .int a1)]) C dX9_readsDigit_4 (by decide) rfl ?_
  refine V.iload_n (pc := 5) C dX9_readsDigit_5 0 rfl ?_
  refine V.bipush (pc := 6) C dX9_readsDigit_6 (v := (48 : Int32)) (by decide) ?_
  refine V.icmp_eq (pc := 8) (t := 37) C dX9_readsDigit_8 (by decide) (fun c3 => ?_) (fun c3 => ?_)
  · have hf := ite_t c3 hf
    refine V.sub (L' := [(0, .ref a0), (2, .int q1.1)]) [1, 0] rfl ?_
    exact bX9_readsDigit_37 C  hf
  have hf := ite_f c3 hf
  refine V.iload_n (pc := 11) C dX9_readsDigit_11 0 rfl ?_
  refine V.bipush (pc := 12) C dX9_readsDigit_12 (v := (49 : Int32)) (by decide) ?_
  refine V.icmp_eq (pc := 14) (t := 37) C dX9_readsDigit_14 (by decide) (fun c4 => ?_) (fun c4 => ?_)
  · have hf := ite_t c4 hf
    refine V.sub (L' := [(0, .ref a0), (2, .int q1.1)]) [1, 0] rfl ?_
    exact bX9_readsDigit_37 C  hf
  have hf := ite_f c4 hf
  refine V.iload_n (pc := 17) C dX9_readsDigit_17 0 rfl ?_
  refine V.bipush (pc := 18) C dX9_readsDigit_18 (v := (120 : Int32)) (by decide) ?_
  refine V.icmp_ne (pc := 20) (t := 27) C dX9_readsDigit_20 (by decide) (fun c5 => ?_) (fun c5 => ?_)
  · have hf := ite_f c5 hf
    refine V.sub (L' := [(0, .ref a0)]) [1] rfl ?_
    exact bX9_readsDigit_27 C  hf
  have hf := ite_t c5 hf
  refine V.iload_n (pc := 23) C dX9_readsDigit_23 2 rfl ?_
  refine V.if_ne (pc := 24) (t := 37) C dX9_readsDigit_24 (by decide) (fun c6 => ?_) (fun c6 => ?_)
  · have hf := ite_f c6 hf
    refine V.sub (L' := [(0, .ref a0), (2, .int q1.1)]) [1, 0] rfl ?_
    exact bX9_readsDigit_37 C  hf
  have hf := ite_t c6 hf
  refine V.sub (L' := [(0, .ref a0)]) [1] rfl ?_
  exact bX9_readsDigit_27 C  hf
theorem wd_1055 : Cond.fieldLink RX9 13 RX9 "rule" "[I" ∈ hw_tbl := hw_sub (List.mem_of_getElem? (i := 1172) (by decide +kernel)) rfl
theorem dX9_ruleAt_0 : decode cX9_ruleAt 0 = .ok (.aload_n 0, 1) := by decide +kernel
theorem dX9_ruleAt_1 : decode cX9_ruleAt 1 = .ok (.getfield 13, 3) := by decide +kernel
theorem dX9_ruleAt_4 : decode cX9_ruleAt 4 = .ok (.bipush 20, 2) := by decide +kernel
theorem dX9_ruleAt_6 : decode cX9_ruleAt 6 = .ok (.iload_n 1, 1) := by decide +kernel
theorem dX9_ruleAt_7 : decode cX9_ruleAt 7 = .ok (.imul, 1) := by decide +kernel
theorem dX9_ruleAt_8 : decode cX9_ruleAt 8 = .ok (.iconst 5, 1) := by decide +kernel
theorem dX9_ruleAt_9 : decode cX9_ruleAt 9 = .ok (.iload_n 2, 1) := by decide +kernel
theorem dX9_ruleAt_10 : decode cX9_ruleAt 10 = .ok (.imul, 1) := by decide +kernel
theorem dX9_ruleAt_11 : decode cX9_ruleAt 11 = .ok (.iadd, 1) := by decide +kernel
theorem dX9_ruleAt_12 : decode cX9_ruleAt 12 = .ok (.iload_n 3, 1) := by decide +kernel
theorem dX9_ruleAt_13 : decode cX9_ruleAt 13 = .ok (.iadd, 1) := by decide +kernel
theorem dX9_ruleAt_14 : decode cX9_ruleAt 14 = .ok (.iaload, 1) := by decide +kernel
theorem dX9_ruleAt_15 : decode cX9_ruleAt 15 = .ok (.ireturn, 1) := by decide +kernel
def fX9_ruleAt (g : PH) (a0 : Nat) (a1 : Int32) (a2 : Int32) (a3 : Int32) : Option (Int32 × PH) :=
  okb (isO g a0 9) ((getQ g a0 9 5).bind fun q1 =>
  (q1.bind fun a3 =>
  ((ldI g a3 0 ((((20 : Int32) * a1) + ((5 : Int32) * a2)) + a3)).bind fun x5 =>
  (some (x5, g)))))
theorem oX9_ruleAt {g : PH} {a0 : Nat} {a1 : Int32} {a2 : Int32} {a3 : Int32} {q : (Int32 × PH)} (h : fX9_ruleAt g a0 a1 a2 a3 = some q) : isO g a0 9 = true := by unfold fX9_ruleAt at h; exact (okb_some h).1
theorem wd_1215 : Cond.code yX9_ruleAt cX9_ruleAt 4 (some .int) ∈ hw_tbl := hw_sub (List.mem_of_getElem? (i := 1332) (by decide +kernel)) rfl
theorem wd_1214 : Cond.instanceMethod yX9_ruleAt ∈ hw_tbl := hw_sub (List.mem_of_getElem? (i := 1331) (by decide +kernel)) rfl
theorem ws_55 : Cond.selects RX9 yX9_ruleAt yX9_ruleAt ∈ hw_tbl := hw_sub (List.mem_of_getElem? (i := 55) (by decide +kernel)) rfl
theorem hyX9_ruleAt : hMet yX9_ruleAt RX9 cX9_ruleAt 4 (some .int) 3 := ⟨wd_1215, wd_1214, ws_55, wd_7, rfl, by decide +kernel, by decide +kernel, by decide +kernel⟩
set_option maxHeartbeats 4000000 in
set_option maxRecDepth 100000 in
theorem mX9_ruleAt (l : Launch) (E : HE) (sz : Nat) {g g' : PH} {a0 : Nat} {a1 : Int32} {a2 : Int32} {a3 : Int32} {r : Int32} (hf : fX9_ruleAt g a0 a1 a2 a3 = some (r, g')) : hM l E yX9_ruleAt cX9_ruleAt 4 (some .int) 0 0 0 0 sz g [.ref a0, .int a1, .int a2, .int a3] (some (.int r)) g' := by
  refine hM.of (by decide) (Nat.le_of_ble_eq_true rfl) (fun K hl C hin hsz => ?_)
  subst hl
  subst hsz
  have C : VC K E 4 cX9_ruleAt RX9 (some .int) := C
  unfold fX9_ruleAt at hf
  obtain ⟨ho, hf⟩ := okb_some hf
  refine V.start (L' := [(0, .ref a0), (1, .int a1), (2, .int a2), (3, .int a3)]) rfl ?_
  refine V.aload_n (pc := 0) C dX9_ruleAt_0 0 rfl ?_
  obtain ⟨q1, h2, hf⟩ := ob_some hf
  refine V.getQ (pc := 1) C kX9 (k := 5) (by decide) wd_1055 h2 dX9_ruleAt_1 ?_
  refine V.bipush (pc := 4) C dX9_ruleAt_4 (v := (20 : Int32)) (by decide) ?_
  refine V.iload_n (pc := 6) C dX9_ruleAt_6 1 rfl ?_
  refine V.imul (pc := 7) C dX9_ruleAt_7 ?_
  refine V.iconst (pc := 8) C dX9_ruleAt_8 (v := (5 : Int32)) (by decide) ?_
  refine V.iload_n (pc := 9) C dX9_ruleAt_9 2 rfl ?_
  refine V.imul (pc := 10) C dX9_ruleAt_10 ?_
  refine V.iadd (pc := 11) C dX9_ruleAt_11 ?_
  refine V.iload_n (pc := 12) C dX9_ruleAt_12 3 rfl ?_
  refine V.iadd (pc := 13) C dX9_ruleAt_13 ?_
  obtain ⟨a3, h4, hf⟩ := ob_some hf
  subst h4
  obtain ⟨x5, h6, hf⟩ := ob_some hf
  refine V.iald (pc := 14) C h6 dX9_ruleAt_14 ?_
  cases hf
  exact V.iret (pc := 15) C rfl dX9_ruleAt_15
theorem dX9_lays_0 : decode cX9_lays 0 = .ok (.aload_n 0, 1) := by decide +kernel
theorem dX9_lays_1 : decode cX9_lays 1 = .ok (.getfield 13, 3) := by decide +kernel
theorem dX9_lays_4 : decode cX9_lays 4 = .ok (.bipush 20, 2) := by decide +kernel
theorem dX9_lays_6 : decode cX9_lays 6 = .ok (.iload_n 1, 1) := by decide +kernel
theorem dX9_lays_7 : decode cX9_lays 7 = .ok (.imul, 1) := by decide +kernel
theorem dX9_lays_8 : decode cX9_lays 8 = .ok (.iconst 5, 1) := by decide +kernel
theorem dX9_lays_9 : decode cX9_lays 9 = .ok (.iload_n 2, 1) := by decide +kernel
theorem dX9_lays_10 : decode cX9_lays 10 = .ok (.imul, 1) := by decide +kernel
theorem dX9_lays_11 : decode cX9_lays 11 = .ok (.iadd, 1) := by decide +kernel
theorem dX9_lays_12 : decode cX9_lays 12 = .ok (.iload_n 3, 1) := by decide +kernel
theorem dX9_lays_13 : decode cX9_lays 13 = .ok (.iadd, 1) := by decide +kernel
theorem dX9_lays_14 : decode cX9_lays 14 = .ok (.iload 4, 2) := by decide +kernel
theorem dX9_lays_16 : decode cX9_lays 16 = .ok (.iastore, 1) := by decide +kernel
theorem dX9_lays_17 : decode cX9_lays 17 = .ok (.return_, 1) := by decide +kernel
def fX9_lays (g : PH) (a0 : Nat) (a1 : Int32) (a2 : Int32) (a3 : Int32) (a4 : Int32) : Option (Unit × PH) :=
  okb (isO g a0 9) ((getQ g a0 9 5).bind fun q1 =>
  (q1.bind fun a3 =>
  ((stI g a3 0 ((((20 : Int32) * a1) + ((5 : Int32) * a2)) + a3) a4).bind fun g5 =>
  (some ((), g5)))))
theorem oX9_lays {g : PH} {a0 : Nat} {a1 : Int32} {a2 : Int32} {a3 : Int32} {a4 : Int32} {q : (Unit × PH)} (h : fX9_lays g a0 a1 a2 a3 a4 = some q) : isO g a0 9 = true := by unfold fX9_lays at h; exact (okb_some h).1
theorem wd_1219 : Cond.code yX9_lays cX9_lays 5 none ∈ hw_tbl := hw_sub (List.mem_of_getElem? (i := 1336) (by decide +kernel)) rfl
theorem wd_1218 : Cond.instanceMethod yX9_lays ∈ hw_tbl := hw_sub (List.mem_of_getElem? (i := 1335) (by decide +kernel)) rfl
theorem ws_56 : Cond.selects RX9 yX9_lays yX9_lays ∈ hw_tbl := hw_sub (List.mem_of_getElem? (i := 56) (by decide +kernel)) rfl
theorem hyX9_lays : hMet yX9_lays RX9 cX9_lays 5 none 4 := ⟨wd_1219, wd_1218, ws_56, wd_7, rfl, by decide +kernel, by decide +kernel, by decide +kernel⟩
set_option maxHeartbeats 4000000 in
set_option maxRecDepth 100000 in
theorem mX9_lays (l : Launch) (E : HE) (sz : Nat) {g g' : PH} {a0 : Nat} {a1 : Int32} {a2 : Int32} {a3 : Int32} {a4 : Int32} {r : Unit} (hf : fX9_lays g a0 a1 a2 a3 a4 = some (r, g')) : hM l E yX9_lays cX9_lays 5 none 0 0 0 0 sz g [.ref a0, .int a1, .int a2, .int a3, .int a4] none g' := by
  refine hM.of (by decide) (Nat.le_of_ble_eq_true rfl) (fun K hl C hin hsz => ?_)
  subst hl
  subst hsz
  have C : VC K E 5 cX9_lays RX9 none := C
  unfold fX9_lays at hf
  obtain ⟨ho, hf⟩ := okb_some hf
  refine V.start (L' := [(0, .ref a0), (1, .int a1), (2, .int a2), (3, .int a3), (4, .int a4)]) rfl ?_
  refine V.aload_n (pc := 0) C dX9_lays_0 0 rfl ?_
  obtain ⟨q1, h2, hf⟩ := ob_some hf
  refine V.getQ (pc := 1) C kX9 (k := 5) (by decide) wd_1055 h2 dX9_lays_1 ?_
  refine V.bipush (pc := 4) C dX9_lays_4 (v := (20 : Int32)) (by decide) ?_
  refine V.iload_n (pc := 6) C dX9_lays_6 1 rfl ?_
  refine V.imul (pc := 7) C dX9_lays_7 ?_
  refine V.iconst (pc := 8) C dX9_lays_8 (v := (5 : Int32)) (by decide) ?_
  refine V.iload_n (pc := 9) C dX9_lays_9 2 rfl ?_
  refine V.imul (pc := 10) C dX9_lays_10 ?_
  refine V.iadd (pc := 11) C dX9_lays_11 ?_
  refine V.iload_n (pc := 12) C dX9_lays_12 3 rfl ?_
  refine V.iadd (pc := 13) C dX9_lays_13 ?_
  refine V.iload (pc := 14) C dX9_lays_14 4 rfl ?_
  obtain ⟨a3, h4, hf⟩ := ob_some hf
  subst h4
  obtain ⟨g5, h6, hf⟩ := ob_some hf
  refine V.iast (pc := 16) C h6 dX9_lays_16 ?_
  cases hf
  exact V.vret (pc := 17) C rfl dX9_lays_17
