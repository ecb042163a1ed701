theorem dX9_march_0 : decode cX9_march 0 = .ok (.aload_n 0, 1) := by decide +kernel
theorem dX9_march_1 : decode cX9_march 1 = .ok (.getfield 159, 3) := by decide +kernel
theorem dX9_march_4 : decode cX9_march 4 = .ok (.bipush 6, 2) := by decide +kernel
theorem dX9_march_6 : decode cX9_march 6 = .ok (.if_icmp .ne 5, 3) := by decide +kernel
theorem dX9_march_9 : decode cX9_march 9 = .ok (.iconst (-1), 1) := by decide +kernel
theorem dX9_march_10 : decode cX9_march 10 = .ok (.ireturn, 1) := by decide +kernel
theorem dX9_march_11 : decode cX9_march 11 = .ok (.aload_n 0, 1) := by decide +kernel
theorem dX9_march_12 : decode cX9_march 12 = .ok (.invokevirtual 174, 3) := by decide +kernel
theorem dX9_march_15 : decode cX9_march 15 = .ok (.istore_n 1, 1) := by decide +kernel
theorem dX9_march_16 : decode cX9_march 16 = .ok (.aload_n 0, 1) := by decide +kernel
theorem dX9_march_17 : decode cX9_march 17 = .ok (.iconst 0, 1) := by decide +kernel
theorem dX9_march_18 : decode cX9_march 18 = .ok (.putfield 82, 3) := by decide +kernel
theorem dX9_march_21 : decode cX9_march 21 = .ok (.iload_n 1, 1) := by decide +kernel
theorem dX9_march_22 : decode cX9_march 22 = .ok (.ifCond .ne 11, 3) := by decide +kernel
theorem dX9_march_25 : decode cX9_march 25 = .ok (.bipush (-2), 2) := by decide +kernel
theorem dX9_march_27 : decode cX9_march 27 = .ok (.aload_n 0, 1) := by decide +kernel
theorem dX9_march_28 : decode cX9_march 28 = .ok (.getfield 90, 3) := by decide +kernel
theorem dX9_march_31 : decode cX9_march 31 = .ok (.isub, 1) := by decide +kernel
theorem dX9_march_32 : decode cX9_march 32 = .ok (.ireturn, 1) := by decide +kernel
theorem dX9_march_33 : decode cX9_march 33 = .ok (.aload_n 0, 1) := by decide +kernel
theorem dX9_march_34 : decode cX9_march 34 = .ok (.dup, 1) := by decide +kernel
theorem dX9_march_35 : decode cX9_march 35 = .ok (.getfield 159, 3) := by decide +kernel
theorem dX9_march_38 : decode cX9_march 38 = .ok (.iconst 1, 1) := by decide +kernel
theorem dX9_march_39 : decode cX9_march 39 = .ok (.iadd, 1) := by decide +kernel
theorem dX9_march_40 : decode cX9_march 40 = .ok (.putfield 159, 3) := by decide +kernel
theorem dX9_march_43 : decode cX9_march 43 = .ok (.aload_n 0, 1) := by decide +kernel
theorem dX9_march_44 : decode cX9_march 44 = .ok (.getfield 159, 3) := by decide +kernel
theorem dX9_march_47 : decode cX9_march 47 = .ok (.iconst 1, 1) := by decide +kernel
theorem dX9_march_48 : decode cX9_march 48 = .ok (.isub, 1) := by decide +kernel
theorem dX9_march_49 : decode cX9_march 49 = .ok (.ireturn, 1) := by decide +kernel
def fX9_march (g : PH) (a0 : Nat) : Option (Int32 × PH) :=
  okb (isO g a0 9) ((getI g a0 9 11).bind fun x1 =>
  (if x1 = (6 : Int32) then (some ((-1 : Int32), g)) else
  ((fX9_readsMarch g a0).bind fun q4 =>
  ((putV q4.2 a0 9 1 (.int (0 : Int32))).bind fun g6 =>
  (if q4.1 = 0 then ((getI g6 a0 9 3).bind fun x15 =>
  (some (((-2 : Int32) - x15), g6))) else
  ((getI g6 a0 9 11).bind fun x9 =>
  ((putV g6 a0 9 11 (.int (x9 + (1 : Int32)))).bind fun g11 =>
  ((getI g11 a0 9 11).bind fun x13 =>
  (some ((x13 - (1 : Int32)), g11))))))))))
theorem oX9_march {g : PH} {a0 : Nat} {q : (Int32 × PH)} (h : fX9_march g a0 = some q) : isO g a0 9 = true := by unfold fX9_march at h; exact (okb_some h).1
theorem hyX9_march : hMet yX9_march RX9 cX9_march 2 (some .int) 0 := ⟨wd_1247, wd_1245, wd_1246, wd_7, rfl, by decide +kernel, by decide +kernel, by decide +kernel⟩
set_option maxHeartbeats 4000000 in
set_option maxRecDepth 100000 in
theorem mX9_march (l : Launch) (E : HE) (sz : Nat) {g g' : PH} {a0 : Nat} {r : Int32} (hf : fX9_march g a0 = some (r, g')) : hM l E yX9_march cX9_march 2 (some .int) 6 131 0 0 sz g [.ref a0] (some (.int r)) g' := by
  refine hM.of (by decide) (Nat.le_of_ble_eq_true rfl) (fun K hl C hin hsz => ?_)
  subst hl
  subst hsz
  have C : VC K E 2 cX9_march RX9 (some .int) := C
  unfold fX9_march at hf
  replace hf := okb_some hf
  obtain ⟨ho, hf⟩ := hf
  refine V.start (L' := [(0, .ref a0)]) rfl ?_
  refine V.aload_n (pc := 0) C dX9_march_0 0 rfl ?_
  replace hf := ob_some hf
  obtain ⟨x1, h2, hf⟩ := hf
  refine V.getI (pc := 1) C kX9 (k := 11) (by decide) wd_1061 h2 dX9_march_1 ?_
  refine V.bipush (pc := 4) C dX9_march_4 (v := (6 : Int32)) (by decide) ?_
  refine V.icmp_ne (pc := 6) (t := 11) C dX9_march_6 (by decide) (fun c3 => ?_) (fun c3 => ?_)
  · replace hf := ite_f c3 hf
    refine V.aload_n (pc := 11) C dX9_march_11 0 rfl ?_
    replace hf := ob_some hf
    obtain ⟨q4, h5, hf⟩ := hf
    refine V.callV0i (pc := 12) C hyX9_readsMarch wd_1248 (mX9_readsMarch (r := q4.1) (g' := q4.2) K.2.1 E (kS K) h5) rfl rfl rfl (oX9_readsMarch h5) ⟨Nat.le_of_ble_eq_true rfl, Nat.le_of_ble_eq_true rfl⟩ (Nat.le_of_ble_eq_true rfl) dX9_march_12 ⟨Nat.zero_le _, Nat.zero_le _⟩ rfl ?_
    refine V.istore_n (pc := 15) (L' := [(1, .int q4.1), (0, .ref a0)]) C dX9_march_15 (by decide) rfl ?_
    refine V.aload_n (pc := 16) C dX9_march_16 1 rfl ?_
    refine V.iconst (pc := 17) C dX9_march_17 (v := (0 : Int32)) (by decide) ?_
    replace hf := ob_some hf
    obtain ⟨g6, h7, hf⟩ := hf
    refine V.putX (pc := 18) C kX9 (k := 1) (by decide) wd_1051 rfl rfl rfl h7 dX9_march_18 ?_
    refine V.iload_n (pc := 21) C dX9_march_21 0 rfl ?_
    refine V.if_ne (pc := 22) (t := 33) C dX9_march_22 (by decide) (fun c8 => ?_) (fun c8 => ?_)
    · replace hf := ite_f c8 hf
      refine V.aload_n (pc := 33) C dX9_march_33 1 rfl ?_
      refine V.dup (pc := 34) C dX9_march_34 rfl ?_
      replace hf := ob_some hf
      obtain ⟨x9, h10, hf⟩ := hf
      refine V.getI (pc := 35) C kX9 (k := 11) (by decide) wd_1061 h10 dX9_march_35 ?_
      refine V.iconst (pc := 38) C dX9_march_38 (v := (1 : Int32)) (by decide) ?_
      refine V.iadd (pc := 39) C dX9_march_39 ?_
      replace hf := ob_some hf
      obtain ⟨g11, h12, hf⟩ := hf
      refine V.putX (pc := 40) C kX9 (k := 11) (by decide) wd_1061 rfl rfl rfl h12 dX9_march_40 ?_
      refine V.aload_n (pc := 43) C dX9_march_43 1 rfl ?_
      replace hf := ob_some hf
      obtain ⟨x13, h14, hf⟩ := hf
      refine V.getI (pc := 44) C kX9 (k := 11) (by decide) wd_1061 h14 dX9_march_44 ?_
      refine V.iconst (pc := 47) C dX9_march_47 (v := (1 : Int32)) (by decide) ?_
      refine V.isub (pc := 48) C dX9_march_48 ?_
      obtain ⟨f1, f2⟩ := fin2 hf
      clear hf
      subst f1
      subst f2
      exact V.iret (pc := 49) C rfl dX9_march_49
    replace hf := ite_t c8 hf
    refine V.bipush (pc := 25) C dX9_march_25 (v := (-2 : Int32)) (by decide) ?_
    refine V.aload_n (pc := 27) C dX9_march_27 1 rfl ?_
    replace hf := ob_some hf
    obtain ⟨x15, h16, hf⟩ := hf
    refine V.getI (pc := 28) C kX9 (k := 3) (by decide) wd_1053 h16 dX9_march_28 ?_
    refine V.isub (pc := 31) C (x := (-2 : Int32)) (y := x15) dX9_march_31 ?_
    obtain ⟨f1, f2⟩ := fin2 hf
    clear hf
    subst f1
    subst f2
    exact V.iret (pc := 32) C rfl dX9_march_32
  replace hf := ite_t c3 hf
  refine V.iconst (pc := 9) C dX9_march_9 (v := (-1 : Int32)) (by decide) ?_
  obtain ⟨f1, f2⟩ := fin2 hf
  clear hf
  subst f1
  subst f2
  exact V.iret (pc := 10) C rfl dX9_march_10
theorem dX9_isKind_0 : decode cX9_isKind 0 = .ok (.iload_n 1, 1) := by decide +kernel
theorem dX9_isKind_1 : decode cX9_isKind 1 = .ok (.ifCond .lt 15, 3) := by decide +kernel
theorem dX9_isKind_4 : decode cX9_isKind 4 = .ok (.iload_n 1, 1) := by decide +kernel
theorem dX9_isKind_5 : decode cX9_isKind 5 = .ok (.aload_n 0, 1) := by decide +kernel
theorem dX9_isKind_6 : decode cX9_isKind 6 = .ok (.getfield 119, 3) := by decide +kernel
theorem dX9_isKind_9 : decode cX9_isKind 9 = .ok (.if_icmp .ge 7, 3) := by decide +kernel
theorem dX9_isKind_12 : decode cX9_isKind 12 = .ok (.iconst 1, 1) := by decide +kernel
theorem dX9_isKind_13 : decode cX9_isKind 13 = .ok (.goto 4, 3) := by decide +kernel
theorem dX9_isKind_16 : decode cX9_isKind 16 = .ok (.iconst 0, 1) := by decide +kernel
theorem dX9_isKind_17 : decode cX9_isKind 17 = .ok (.ireturn, 1) := by decide +kernel
def fX9_isKind (g : PH) (a0 : Nat) (a1 : Int32) : Option (Int32 × PH) :=
  okb (isO g a0 9) (if a1 < 0 then (some ((0 : Int32), g)) else
  ((getI g a0 9 7).bind fun x2 =>
  (if x2 ≤ a1 then (some ((0 : Int32), g)) else
  (some ((1 : Int32), g)))))
theorem oX9_isKind {g : PH} {a0 : Nat} {a1 : Int32} {q : (Int32 × PH)} (h : fX9_isKind g a0 a1 = some q) : isO g a0 9 = true := by unfold fX9_isKind at h; exact (okb_some h).1
theorem hyX9_isKind : hMet yX9_isKind RX9 cX9_isKind 2 (some .boolean) 1 := ⟨wd_1273, wd_1272, ws_67, wd_7, rfl, by decide +kernel, by decide +kernel, by decide +kernel⟩
set_option maxHeartbeats 4000000 in
set_option maxRecDepth 100000 in
theorem mX9_isKind (l : Launch) (E : HE) (sz : Nat) {g g' : PH} {a0 : Nat} {a1 : Int32} {r : Int32} (hf : fX9_isKind g a0 a1 = some (r, g')) : hM l E yX9_isKind cX9_isKind 2 (some .boolean) 0 0 0 0 sz g [.ref a0, .int a1] (some (.int r)) g' := by
  refine hM.of (by decide) (Nat.le_of_ble_eq_true rfl) (fun K hl C hin hsz => ?_)
  subst hl
  subst hsz
  have C : VC K E 2 cX9_isKind RX9 (some .boolean) := C
  unfold fX9_isKind at hf
  replace hf := okb_some hf
  obtain ⟨ho, hf⟩ := hf
  refine V.start (L' := [(0, .ref a0), (1, .int a1)]) rfl ?_
  refine V.iload_n (pc := 0) C dX9_isKind_0 1 rfl ?_
  refine V.if_lt (pc := 1) (t := 16) C dX9_isKind_1 (by decide) (fun c1 => ?_) (fun c1 => ?_)
  · replace hf := ite_t c1 hf
    refine V.iconst (pc := 16) C dX9_isKind_16 (v := (0 : Int32)) (by decide) ?_
    obtain ⟨f1, f2⟩ := fin2 hf
    clear hf
    subst f1
    subst f2
    exact V.zret (pc := 17) C rfl rfl dX9_isKind_17
  replace hf := ite_f c1 hf
  refine V.iload_n (pc := 4) C dX9_isKind_4 1 rfl ?_
  refine V.aload_n (pc := 5) C dX9_isKind_5 0 rfl ?_
  replace hf := ob_some hf
  obtain ⟨x2, h3, hf⟩ := hf
  refine V.getI (pc := 6) C kX9 (k := 7) (by decide) wd_1057 h3 dX9_isKind_6 ?_
  refine V.icmp_ge (pc := 9) (t := 16) C dX9_isKind_9 (by decide) (fun c4 => ?_) (fun c4 => ?_)
  · replace hf := ite_t c4 hf
    refine V.iconst (pc := 16) C dX9_isKind_16 (v := (0 : Int32)) (by decide) ?_
    obtain ⟨f1, f2⟩ := fin2 hf
    clear hf
    subst f1
    subst f2
    exact V.zret (pc := 17) C rfl rfl dX9_isKind_17
  replace hf := ite_f c4 hf
  refine V.iconst (pc := 12) C dX9_isKind_12 (v := (1 : Int32)) (by decide) ?_
  refine V.goto (pc := 13) (t := 17) C dX9_isKind_13 (by decide) ?_
  obtain ⟨f1, f2⟩ := fin2 hf
  clear hf
  subst f1
  subst f2
  exact V.zret (pc := 17) C rfl rfl dX9_isKind_17
theorem dX9_isMarch_0 : decode cX9_isMarch 0 = .ok (.iload_n 1, 1) := by decide +kernel
theorem dX9_isMarch_1 : decode cX9_isMarch 1 = .ok (.ifCond .lt 15, 3) := by decide +kernel
theorem dX9_isMarch_4 : decode cX9_isMarch 4 = .ok (.iload_n 1, 1) := by decide +kernel
theorem dX9_isMarch_5 : decode cX9_isMarch 5 = .ok (.aload_n 0, 1) := by decide +kernel
theorem dX9_isMarch_6 : decode cX9_isMarch 6 = .ok (.getfield 159, 3) := by decide +kernel
theorem dX9_isMarch_9 : decode cX9_isMarch 9 = .ok (.if_icmp .ge 7, 3) := by decide +kernel
theorem dX9_isMarch_12 : decode cX9_isMarch 12 = .ok (.iconst 1, 1) := by decide +kernel
theorem dX9_isMarch_13 : decode cX9_isMarch 13 = .ok (.goto 4, 3) := by decide +kernel
theorem dX9_isMarch_16 : decode cX9_isMarch 16 = .ok (.iconst 0, 1) := by decide +kernel
theorem dX9_isMarch_17 : decode cX9_isMarch 17 = .ok (.ireturn, 1) := by decide +kernel
def fX9_isMarch (g : PH) (a0 : Nat) (a1 : Int32) : Option (Int32 × PH) :=
  okb (isO g a0 9) (if a1 < 0 then (some ((0 : Int32), g)) else
  ((getI g a0 9 11).bind fun x2 =>
  (if x2 ≤ a1 then (some ((0 : Int32), g)) else
  (some ((1 : Int32), g)))))
theorem oX9_isMarch {g : PH} {a0 : Nat} {a1 : Int32} {q : (Int32 × PH)} (h : fX9_isMarch g a0 a1 = some q) : isO g a0 9 = true := by unfold fX9_isMarch at h; exact (okb_some h).1
theorem hyX9_isMarch : hMet yX9_isMarch RX9 cX9_isMarch 2 (some .boolean) 1 := ⟨wd_1290, wd_1289, ws_70, wd_7, rfl, by decide +kernel, by decide +kernel, by decide +kernel⟩
set_option maxHeartbeats 4000000 in
set_option maxRecDepth 100000 in
theorem mX9_isMarch (l : Launch) (E : HE) (sz : Nat) {g g' : PH} {a0 : Nat} {a1 : Int32} {r : Int32} (hf : fX9_isMarch g a0 a1 = some (r, g')) : hM l E yX9_isMarch cX9_isMarch 2 (some .boolean) 0 0 0 0 sz g [.ref a0, .int a1] (some (.int r)) g' := by
  refine hM.of (by decide) (Nat.le_of_ble_eq_true rfl) (fun K hl C hin hsz => ?_)
  subst hl
  subst hsz
  have C : VC K E 2 cX9_isMarch RX9 (some .boolean) := C
  unfold fX9_isMarch at hf
  replace hf := okb_some hf
  obtain ⟨ho, hf⟩ := hf
  refine V.start (L' := [(0, .ref a0), (1, .int a1)]) rfl ?_
  refine V.iload_n (pc := 0) C dX9_isMarch_0 1 rfl ?_
  refine V.if_lt (pc := 1) (t := 16) C dX9_isMarch_1 (by decide) (fun c1 => ?_) (fun c1 => ?_)
  · replace hf := ite_t c1 hf
    refine V.iconst (pc := 16) C dX9_isMarch_16 (v := (0 : Int32)) (by decide) ?_
    obtain ⟨f1, f2⟩ := fin2 hf
    clear hf
    subst f1
    subst f2
    exact V.zret (pc := 17) C rfl rfl dX9_isMarch_17
  replace hf := ite_f c1 hf
  refine V.iload_n (pc := 4) C dX9_isMarch_4 1 rfl ?_
  refine V.aload_n (pc := 5) C dX9_isMarch_5 0 rfl ?_
  replace hf := ob_some hf
  obtain ⟨x2, h3, hf⟩ := hf
  refine V.getI (pc := 6) C kX9 (k := 11) (by decide) wd_1061 h3 dX9_isMarch_6 ?_
  refine V.icmp_ge (pc := 9) (t := 16) C dX9_isMarch_9 (by decide) (fun c4 => ?_) (fun c4 => ?_)
  · replace hf := ite_t c4 hf
    refine V.iconst (pc := 16) C dX9_isMarch_16 (v := (0 : Int32)) (by decide) ?_
    obtain ⟨f1, f2⟩ := fin2 hf
    clear hf
    subst f1
    subst f2
    exact V.zret (pc := 17) C rfl rfl dX9_isMarch_17
  replace hf := ite_f c4 hf
  refine V.iconst (pc := 12) C dX9_isMarch_12 (v := (1 : Int32)) (by decide) ?_
  refine V.goto (pc := 13) (t := 17) C dX9_isMarch_13 (by decide) ?_
  obtain ⟨f1, f2⟩ := fin2 hf
  clear hf
  subst f1
  subst f2
  exact V.zret (pc := 17) C rfl rfl dX9_isMarch_17
theorem dX9_isPair_0 : decode cX9_isPair 0 = .ok (.iconst 0, 1) := by decide +kernel
theorem dX9_isPair_1 : decode cX9_isPair 1 = .ok (.istore_n 2, 1) := by decide +kernel
theorem dX9_isPair_2 : decode cX9_isPair 2 = .ok (.iload_n 2, 1) := by decide +kernel
theorem dX9_isPair_3 : decode cX9_isPair 3 = .ok (.aload_n 0, 1) := by decide +kernel
theorem dX9_isPair_4 : decode cX9_isPair 4 = .ok (.getfield 17, 3) := by decide +kernel
theorem dX9_isPair_7 : decode cX9_isPair 7 = .ok (.iload_n 1, 1) := by decide +kernel
theorem dX9_isPair_8 : decode cX9_isPair 8 = .ok (.iaload, 1) := by decide +kernel
theorem dX9_isPair_9 : decode cX9_isPair 9 = .ok (.if_icmp .ge 43, 3) := by decide +kernel
theorem dX9_isPair_12 : decode cX9_isPair 12 = .ok (.aload_n 0, 1) := by decide +kernel
theorem dX9_isPair_13 : decode cX9_isPair 13 = .ok (.iload_n 1, 1) := by decide +kernel
theorem dX9_isPair_14 : decode cX9_isPair 14 = .ok (.iload_n 2, 1) := by decide +kernel
theorem dX9_isPair_15 : decode cX9_isPair 15 = .ok (.iconst 0, 1) := by decide +kernel
theorem dX9_isPair_16 : decode cX9_isPair 16 = .ok (.invokevirtual 138, 3) := by decide +kernel
theorem dX9_isPair_19 : decode cX9_isPair 19 = .ok (.istore_n 3, 1) := by decide +kernel
theorem dX9_isPair_20 : decode cX9_isPair 20 = .ok (.iload_n 3, 1) := by decide +kernel
theorem dX9_isPair_21 : decode cX9_isPair 21 = .ok (.bipush 97, 2) := by decide +kernel
theorem dX9_isPair_23 : decode cX9_isPair 23 = .ok (.if_icmp .eq 21, 3) := by decide +kernel
theorem dX9_isPair_26 : decode cX9_isPair 26 = .ok (.iload_n 3, 1) := by decide +kernel
theorem dX9_isPair_27 : decode cX9_isPair 27 = .ok (.bipush 115, 2) := by decide +kernel
theorem dX9_isPair_29 : decode cX9_isPair 29 = .ok (.if_icmp .eq 15, 3) := by decide +kernel
theorem dX9_isPair_32 : decode cX9_isPair 32 = .ok (.iload_n 3, 1) := by decide +kernel
theorem dX9_isPair_33 : decode cX9_isPair 33 = .ok (.bipush 109, 2) := by decide +kernel
theorem dX9_isPair_35 : decode cX9_isPair 35 = .ok (.if_icmp .eq 9, 3) := by decide +kernel
theorem dX9_isPair_38 : decode cX9_isPair 38 = .ok (.iload_n 3, 1) := by decide +kernel
theorem dX9_isPair_39 : decode cX9_isPair 39 = .ok (.bipush 98, 2) := by decide +kernel
theorem dX9_isPair_41 : decode cX9_isPair 41 = .ok (.if_icmp .ne 5, 3) := by decide +kernel
theorem dX9_isPair_44 : decode cX9_isPair 44 = .ok (.iconst 1, 1) := by decide +kernel
theorem dX9_isPair_45 : decode cX9_isPair 45 = .ok (.ireturn, 1) := by decide +kernel
theorem dX9_isPair_46 : decode cX9_isPair 46 = .ok (.iinc 2 1, 3) := by decide +kernel
theorem dX9_isPair_49 : decode cX9_isPair 49 = .ok (.goto (-47), 3) := by decide +kernel
theorem dX9_isPair_52 : decode cX9_isPair 52 = .ok (.iconst 0, 1) := by decide +kernel
theorem dX9_isPair_53 : decode cX9_isPair 53 = .ok (.ireturn, 1) := by decide +kernel
def fX9_isPair_2  : Nat → PH → Nat → Int32 → Int32 → Option (Int32 × PH)
  | 0, _, _, _, _ => none
  | n + 1, g, v0, v1, v2 =>
  (getR g v0 9 6).bind fun p1 =>
  ((ldI g p1 0 v1).bind fun x3 =>
  (if x3 ≤ v2 then (some ((0 : Int32), g)) else
  ((fX9_ruleAt g v0 v1 v2 (0 : Int32)).bind fun q6 =>
  (if q6.1 = (97 : Int32) then (some ((1 : Int32), q6.2)) else
  (if q6.1 = (115 : Int32) then (some ((1 : Int32), q6.2)) else
  (if q6.1 = (109 : Int32) then (some ((1 : Int32), q6.2)) else
  (if q6.1 = (98 : Int32) then (some ((1 : Int32), q6.2)) else
  (fX9_isPair_2 n q6.2 v0 v1 (v2 + (1 : Int32))))))))))
set_option maxHeartbeats 4000000 in
set_option maxRecDepth 100000 in
theorem bX9_isPair_2 {K : HK} {E : HE} {r : Int32} {g' : PH}  (C : VC K E 4 cX9_isPair RX9 (some .boolean))  : ∀ (n : Nat) (g : PH) (v0 : Nat) (v1 : Int32) (v2 : Int32), fX9_isPair_2  n g v0 v1 v2 = some (r, g') → V K E (hRm 1 23 0 0) 4 (hZ K E (some (.int r)) g' 0 0) 0 0 (kS K) g 2 [(0, .ref v0), (1, .int v1), (2, .int v2)] [] := by
  intro n
  induction n with
  | zero =>
    intro g v0 v1 v2 hf
    rw [fX9_isPair_2] at hf
    cases hf
  | succ n ih =>
    intro g v0 v1 v2 hf
    rw [fX9_isPair_2] at hf
    refine V.iload_n (pc := 2) C dX9_isPair_2 2 rfl ?_
    refine V.aload_n (pc := 3) C dX9_isPair_3 0 rfl ?_
    replace hf := ob_some hf
    obtain ⟨p1, h2, hf⟩ := hf
    refine V.getR (pc := 4) C kX9 (k := 6) (by decide) wd_1056 h2 dX9_isPair_4 ?_
    refine V.iload_n (pc := 7) C dX9_isPair_7 1 rfl ?_
    replace hf := ob_some hf
    obtain ⟨x3, h4, hf⟩ := hf
    refine V.iald (pc := 8) C h4 dX9_isPair_8 ?_
    refine V.icmp_ge (pc := 9) (t := 52) C dX9_isPair_9 (by decide) (fun c5 => ?_) (fun c5 => ?_)
    · replace hf := ite_t c5 hf
      refine V.iconst (pc := 52) C dX9_isPair_52 (v := (0 : Int32)) (by decide) ?_
      obtain ⟨f1, f2⟩ := fin2 hf
      clear hf
      subst f1
      subst f2
      exact V.zret (pc := 53) C rfl rfl dX9_isPair_53
    replace hf := ite_f c5 hf
    refine V.aload_n (pc := 12) C dX9_isPair_12 0 rfl ?_
    refine V.iload_n (pc := 13) C dX9_isPair_13 1 rfl ?_
    refine V.iload_n (pc := 14) C dX9_isPair_14 2 rfl ?_
    refine V.iconst (pc := 15) C dX9_isPair_15 (v := (0 : Int32)) (by decide) ?_
    replace hf := ob_some hf
    obtain ⟨q6, h7, hf⟩ := hf
    refine V.callV0i (pc := 16) C hyX9_ruleAt wd_1212 (mX9_ruleAt (r := q6.1) (g' := q6.2) K.2.1 E (kS K) h7) rfl rfl rfl (oX9_ruleAt h7) ⟨Nat.le_of_ble_eq_true rfl, Nat.le_of_ble_eq_true rfl⟩ (Nat.le_of_ble_eq_true rfl) dX9_isPair_16 ⟨Nat.zero_le _, Nat.zero_le _⟩ rfl ?_
    refine V.istore_n (pc := 19) (L' := [(3, .int q6.1), (0, .ref v0), (1, .int v1), (2, .int v2)]) C dX9_isPair_19 (by decide) rfl ?_
    refine V.iload_n (pc := 20) C dX9_isPair_20 0 rfl ?_
    refine V.bipush (pc := 21) C dX9_isPair_21 (v := (97 : Int32)) (by decide) ?_
    refine V.icmp_eq (pc := 23) (t := 44) C dX9_isPair_23 (by decide) (fun c8 => ?_) (fun c8 => ?_)
    · replace hf := ite_t c8 hf
      refine V.iconst (pc := 44) C dX9_isPair_44 (v := (1 : Int32)) (by decide) ?_
      obtain ⟨f1, f2⟩ := fin2 hf
      clear hf
      subst f1
      subst f2
      exact V.zret (pc := 45) C rfl rfl dX9_isPair_45
    replace hf := ite_f c8 hf
    refine V.iload_n (pc := 26) C dX9_isPair_26 0 rfl ?_
    refine V.bipush (pc := 27) C dX9_isPair_27 (v := (115 : Int32)) (by decide) ?_
    refine V.icmp_eq (pc := 29) (t := 44) C dX9_isPair_29 (by decide) (fun c9 => ?_) (fun c9 => ?_)
    · replace hf := ite_t c9 hf
      refine V.iconst (pc := 44) C dX9_isPair_44 (v := (1 : Int32)) (by decide) ?_
      obtain ⟨f1, f2⟩ := fin2 hf
      clear hf
      subst f1
      subst f2
      exact V.zret (pc := 45) C rfl rfl dX9_isPair_45
    replace hf := ite_f c9 hf
    refine V.iload_n (pc := 32) C dX9_isPair_32 0 rfl ?_
    refine V.bipush (pc := 33) C dX9_isPair_33 (v := (109 : Int32)) (by decide) ?_
    refine V.icmp_eq (pc := 35) (t := 44) C dX9_isPair_35 (by decide) (fun c10 => ?_) (fun c10 => ?_)
    · replace hf := ite_t c10 hf
      refine V.iconst (pc := 44) C dX9_isPair_44 (v := (1 : Int32)) (by decide) ?_
      obtain ⟨f1, f2⟩ := fin2 hf
      clear hf
      subst f1
      subst f2
      exact V.zret (pc := 45) C rfl rfl dX9_isPair_45
    replace hf := ite_f c10 hf
    refine V.iload_n (pc := 38) C dX9_isPair_38 0 rfl ?_
    refine V.bipush (pc := 39) C dX9_isPair_39 (v := (98 : Int32)) (by decide) ?_
    refine V.icmp_ne (pc := 41) (t := 46) C dX9_isPair_41 (by decide) (fun c11 => ?_) (fun c11 => ?_)
    · replace hf := ite_f c11 hf
      refine V.iinc (pc := 46) (v := (v2 + (1 : Int32))) (L' := [(2, .int (v2 + (1 : Int32))), (3, .int q6.1), (0, .ref v0), (1, .int v1)]) C dX9_isPair_46 3 rfl rfl (by decide) rfl ?_
      refine V.goto (pc := 49) (t := 2) C dX9_isPair_49 (by decide) ?_
      refine V.sub (L' := [(0, .ref v0), (1, .int v1), (2, .int (v2 + (1 : Int32)))]) [2, 3, 0] rfl ?_
      exact ih _ _ _ _ hf
    replace hf := ite_t c11 hf
    refine V.iconst (pc := 44) C dX9_isPair_44 (v := (1 : Int32)) (by decide) ?_
    obtain ⟨f1, f2⟩ := fin2 hf
    clear hf
    subst f1
    subst f2
    exact V.zret (pc := 45) C rfl rfl dX9_isPair_45
def fX9_isPair (g : PH) (a0 : Nat) (a1 : Int32) : Option (Int32 × PH) :=
  okb (isO g a0 9) (fX9_isPair_2 FUEL g a0 a1 (0 : Int32))
theorem oX9_isPair {g : PH} {a0 : Nat} {a1 : Int32} {q : (Int32 × PH)} (h : fX9_isPair g a0 a1 = some q) : isO g a0 9 = true := by unfold fX9_isPair at h; exact (okb_some h).1
theorem hyX9_isPair : hMet yX9_isPair RX9 cX9_isPair 4 (some .boolean) 1 := ⟨wd_1278, wd_1277, ws_68, wd_7, rfl, by decide +kernel, by decide +kernel, by decide +kernel⟩
set_option maxHeartbeats 4000000 in
set_option maxRecDepth 100000 in
theorem mX9_isPair (l : Launch) (E : HE) (sz : Nat) {g g' : PH} {a0 : Nat} {a1 : Int32} {r : Int32} (hf : fX9_isPair g a0 a1 = some (r, g')) : hM l E yX9_isPair cX9_isPair 4 (some .boolean) 1 23 0 0 sz g [.ref a0, .int a1] (some (.int r)) g' := by
  refine hM.of (by decide) (Nat.le_of_ble_eq_true rfl) (fun K hl C hin hsz => ?_)
  subst hl
  subst hsz
  have C : VC K E 4 cX9_isPair RX9 (some .boolean) := C
  unfold fX9_isPair at hf
  replace hf := okb_some hf
  obtain ⟨ho, hf⟩ := hf
  refine V.start (L' := [(0, .ref a0), (1, .int a1)]) rfl ?_
  refine V.iconst (pc := 0) C dX9_isPair_0 (v := (0 : Int32)) (by decide) ?_
  refine V.istore_n (pc := 1) (L' := [(2, .int (0 : Int32)), (0, .ref a0), (1, .int a1)]) C dX9_isPair_1 (by decide) rfl ?_
  refine V.sub (L' := [(0, .ref a0), (1, .int a1), (2, .int (0 : Int32))]) [1, 2, 0] rfl ?_
  exact bX9_isPair_2 C  _ _ _ _ _ hf
theorem dX9_anys_0 : decode cX9_anys 0 = .ok (.iconst 0, 1) := by decide +kernel
theorem dX9_anys_1 : decode cX9_anys 1 = .ok (.istore_n 2, 1) := by decide +kernel
theorem dX9_anys_2 : decode cX9_anys 2 = .ok (.iconst 0, 1) := by decide +kernel
theorem dX9_anys_3 : decode cX9_anys 3 = .ok (.istore_n 3, 1) := by decide +kernel
theorem dX9_anys_4 : decode cX9_anys 4 = .ok (.iload_n 3, 1) := by decide +kernel
theorem dX9_anys_5 : decode cX9_anys 5 = .ok (.aload_n 0, 1) := by decide +kernel
theorem dX9_anys_6 : decode cX9_anys 6 = .ok (.getfield 23, 3) := by decide +kernel
theorem dX9_anys_9 : decode cX9_anys 9 = .ok (.iload_n 1, 1) := by decide +kernel
theorem dX9_anys_10 : decode cX9_anys 10 = .ok (.iaload, 1) := by decide +kernel
theorem dX9_anys_11 : decode cX9_anys 11 = .ok (.if_icmp .ge 28, 3) := by decide +kernel
theorem dX9_anys_14 : decode cX9_anys 14 = .ok (.iload_n 2, 1) := by decide +kernel
theorem dX9_anys_15 : decode cX9_anys 15 = .ok (.aload_n 0, 1) := by decide +kernel
theorem dX9_anys_16 : decode cX9_anys 16 = .ok (.iload_n 1, 1) := by decide +kernel
theorem dX9_anys_17 : decode cX9_anys 17 = .ok (.iload_n 3, 1) := by decide +kernel
theorem dX9_anys_18 : decode cX9_anys 18 = .ok (.iconst 0, 1) := by decide +kernel
theorem dX9_anys_19 : decode cX9_anys 19 = .ok (.invokevirtual 177, 3) := by decide +kernel
theorem dX9_anys_22 : decode cX9_anys 22 = .ok (.iconst 2, 1) := by decide +kernel
theorem dX9_anys_23 : decode cX9_anys 23 = .ok (.if_icmp .ne 7, 3) := by decide +kernel
theorem dX9_anys_26 : decode cX9_anys 26 = .ok (.iconst 1, 1) := by decide +kernel
theorem dX9_anys_27 : decode cX9_anys 27 = .ok (.goto 4, 3) := by decide +kernel
theorem dX9_anys_30 : decode cX9_anys 30 = .ok (.iconst 0, 1) := by decide +kernel
theorem dX9_anys_31 : decode cX9_anys 31 = .ok (.iadd, 1) := by decide +kernel
theorem dX9_anys_32 : decode cX9_anys 32 = .ok (.istore_n 2, 1) := by decide +kernel
theorem dX9_anys_33 : decode cX9_anys 33 = .ok (.iinc 3 1, 3) := by decide +kernel
theorem dX9_anys_36 : decode cX9_anys 36 = .ok (.goto (-32), 3) := by decide +kernel
theorem dX9_anys_39 : decode cX9_anys 39 = .ok (.iload_n 2, 1) := by decide +kernel
theorem dX9_anys_40 : decode cX9_anys 40 = .ok (.ireturn, 1) := by decide +kernel
def fX9_anys_31 (k4 : PH → Nat → Int32 → Int32 → Int32 → Option (Int32 × PH)) (g : PH) (v0 : Nat) (v1 : Int32) (v3 : Int32) (s0 : Int32) (s1 : Int32) : Option (Int32 × PH) :=
  k4 g v0 v1 (s1 + s0) (v3 + (1 : Int32))
set_option maxHeartbeats 4000000 in
set_option maxRecDepth 100000 in
theorem bX9_anys_31 {K : HK} {E : HE} {r : Int32} {g' : PH} {k4 : PH → Nat → Int32 → Int32 → Int32 → Option (Int32 × PH)} (C : VC K E 4 cX9_anys RX9 (some .int)) (hk4 : ∀ (g : PH) (v0 : Nat) (v1 : Int32) (v2 : Int32) (v3 : Int32), k4 g v0 v1 v2 v3 = some (r, g') → V K E (hRm 1 23 0 0) 4 (hZ K E (some (.int r)) g' 0 0) 0 0 (kS K) g 4 [(0, .ref v0), (1, .int v1), (2, .int v2), (3, .int v3)] []) {g : PH} {v0 : Nat} {v1 : Int32} {v3 : Int32} {s0 : Int32} {s1 : Int32} (hf : fX9_anys_31 k4 g v0 v1 v3 s0 s1 = some (r, g')) : V K E (hRm 1 23 0 0) 4 (hZ K E (some (.int r)) g' 0 0) 0 0 (kS K) g 31 [(0, .ref v0), (1, .int v1), (3, .int v3)] [.int s0, .int s1] := by
  unfold fX9_anys_31 at hf
  refine V.iadd (pc := 31) C dX9_anys_31 ?_
  refine V.istore_n (pc := 32) (L' := [(2, .int (s1 + s0)), (0, .ref v0), (1, .int v1), (3, .int v3)]) C dX9_anys_32 (by decide) rfl ?_
  refine V.iinc (pc := 33) (v := (v3 + (1 : Int32))) (L' := [(3, .int (v3 + (1 : Int32))), (2, .int (s1 + s0)), (0, .ref v0), (1, .int v1)]) C dX9_anys_33 3 rfl rfl (by decide) rfl ?_
  refine V.goto (pc := 36) (t := 4) C dX9_anys_36 (by decide) ?_
  refine V.sub (L' := [(0, .ref v0), (1, .int v1), (2, .int (s1 + s0)), (3, .int (v3 + (1 : Int32)))]) [2, 3, 1, 0] rfl ?_
  exact hk4 _ _ _ _ _ hf
def fX9_anys_4  : Nat → PH → Nat → Int32 → Int32 → Int32 → Option (Int32 × PH)
  | 0, _, _, _, _, _ => none
  | n + 1, g, v0, v1, v2, v3 =>
  (getR g v0 9 9).bind fun p1 =>
  ((ldI g p1 0 v1).bind fun x3 =>
  (if x3 ≤ v3 then (some (v2, g)) else
  ((fX9_elementAt g v0 v1 v3 (0 : Int32)).bind fun q6 =>
  (if q6.1 = (2 : Int32) then (fX9_anys_31 (fX9_anys_4 n) q6.2 v0 v1 v3 (1 : Int32) v2) else
  (fX9_anys_31 (fX9_anys_4 n) q6.2 v0 v1 v3 (0 : Int32) v2)))))
set_option maxHeartbeats 4000000 in
set_option maxRecDepth 100000 in
theorem bX9_anys_4 {K : HK} {E : HE} {r : Int32} {g' : PH}  (C : VC K E 4 cX9_anys RX9 (some .int))  : ∀ (n : Nat) (g : PH) (v0 : Nat) (v1 : Int32) (v2 : Int32) (v3 : Int32), fX9_anys_4  n g v0 v1 v2 v3 = some (r, g') → V K E (hRm 1 23 0 0) 4 (hZ K E (some (.int r)) g' 0 0) 0 0 (kS K) g 4 [(0, .ref v0), (1, .int v1), (2, .int v2), (3, .int v3)] [] := by
  intro n
  induction n with
  | zero =>
    intro g v0 v1 v2 v3 hf
    rw [fX9_anys_4] at hf
    cases hf
  | succ n ih =>
    intro g v0 v1 v2 v3 hf
    rw [fX9_anys_4] at hf
    refine V.iload_n (pc := 4) C dX9_anys_4 3 rfl ?_
    refine V.aload_n (pc := 5) C dX9_anys_5 0 rfl ?_
    replace hf := ob_some hf
    obtain ⟨p1, h2, hf⟩ := hf
    refine V.getR (pc := 6) C kX9 (k := 9) (by decide) wd_1059 h2 dX9_anys_6 ?_
    refine V.iload_n (pc := 9) C dX9_anys_9 1 rfl ?_
    replace hf := ob_some hf
    obtain ⟨x3, h4, hf⟩ := hf
    refine V.iald (pc := 10) C h4 dX9_anys_10 ?_
    refine V.icmp_ge (pc := 11) (t := 39) C dX9_anys_11 (by decide) (fun c5 => ?_) (fun c5 => ?_)
    · replace hf := ite_t c5 hf
      refine V.iload_n (pc := 39) C dX9_anys_39 2 rfl ?_
      obtain ⟨f1, f2⟩ := fin2 hf
      clear hf
      subst f1
      subst f2
      exact V.iret (pc := 40) C rfl dX9_anys_40
    replace hf := ite_f c5 hf
    refine V.iload_n (pc := 14) C dX9_anys_14 2 rfl ?_
    refine V.aload_n (pc := 15) C dX9_anys_15 0 rfl ?_
    refine V.iload_n (pc := 16) C dX9_anys_16 1 rfl ?_
    refine V.iload_n (pc := 17) C dX9_anys_17 3 rfl ?_
    refine V.iconst (pc := 18) C dX9_anys_18 (v := (0 : Int32)) (by decide) ?_
    replace hf := ob_some hf
    obtain ⟨q6, h7, hf⟩ := hf
    refine V.callV0i (pc := 19) C hyX9_elementAt wd_1292 (mX9_elementAt (r := q6.1) (g' := q6.2) K.2.1 E (kS K) h7) rfl rfl rfl (oX9_elementAt h7) ⟨Nat.le_of_ble_eq_true rfl, Nat.le_of_ble_eq_true rfl⟩ (Nat.le_of_ble_eq_true rfl) dX9_anys_19 ⟨Nat.zero_le _, Nat.zero_le _⟩ rfl ?_
    refine V.iconst (pc := 22) C dX9_anys_22 (v := (2 : Int32)) (by decide) ?_
    refine V.icmp_ne (pc := 23) (t := 30) C dX9_anys_23 (by decide) (fun c8 => ?_) (fun c8 => ?_)
    · replace hf := ite_f c8 hf
      refine V.iconst (pc := 30) C dX9_anys_30 (v := (0 : Int32)) (by decide) ?_
      refine V.sub (L' := [(0, .ref v0), (1, .int v1), (3, .int v3)]) [0, 1, 3] rfl ?_
      exact bX9_anys_31 C ih hf
    replace hf := ite_t c8 hf
    refine V.iconst (pc := 26) C dX9_anys_26 (v := (1 : Int32)) (by decide) ?_
    refine V.goto (pc := 27) (t := 31) C dX9_anys_27 (by decide) ?_
    refine V.sub (L' := [(0, .ref v0), (1, .int v1), (3, .int v3)]) [0, 1, 3] rfl ?_
    exact bX9_anys_31 C ih hf
def fX9_anys (g : PH) (a0 : Nat) (a1 : Int32) : Option (Int32 × PH) :=
  okb (isO g a0 9) (fX9_anys_4 FUEL g a0 a1 (0 : Int32) (0 : Int32))
theorem oX9_anys {g : PH} {a0 : Nat} {a1 : Int32} {q : (Int32 × PH)} (h : fX9_anys g a0 a1 = some q) : isO g a0 9 = true := by unfold fX9_anys at h; exact (okb_some h).1
theorem hyX9_anys : hMet yX9_anys RX9 cX9_anys 4 (some .int) 1 := ⟨wd_1299, wd_1298, ws_72, wd_7, rfl, by decide +kernel, by decide +kernel, by decide +kernel⟩
set_option maxHeartbeats 4000000 in
set_option maxRecDepth 100000 in
theorem mX9_anys (l : Launch) (E : HE) (sz : Nat) {g g' : PH} {a0 : Nat} {a1 : Int32} {r : Int32} (hf : fX9_anys g a0 a1 = some (r, g')) : hM l E yX9_anys cX9_anys 4 (some .int) 1 23 0 0 sz g [.ref a0, .int a1] (some (.int r)) g' := by
  refine hM.of (by decide) (Nat.le_of_ble_eq_true rfl) (fun K hl C hin hsz => ?_)
  subst hl
  subst hsz
  have C : VC K E 4 cX9_anys RX9 (some .int) := C
  unfold fX9_anys at hf
  replace hf := okb_some hf
  obtain ⟨ho, hf⟩ := hf
  refine V.start (L' := [(0, .ref a0), (1, .int a1)]) rfl ?_
  refine V.iconst (pc := 0) C dX9_anys_0 (v := (0 : Int32)) (by decide) ?_
  refine V.istore_n (pc := 1) (L' := [(2, .int (0 : Int32)), (0, .ref a0), (1, .int a1)]) C dX9_anys_1 (by decide) rfl ?_
  refine V.iconst (pc := 2) C dX9_anys_2 (v := (0 : Int32)) (by decide) ?_
  refine V.istore_n (pc := 3) (L' := [(3, .int (0 : Int32)), (2, .int (0 : Int32)), (0, .ref a0), (1, .int a1)]) C dX9_anys_3 (by decide) rfl ?_
  refine V.sub (L' := [(0, .ref a0), (1, .int a1), (2, .int (0 : Int32)), (3, .int (0 : Int32))]) [2, 3, 1, 0] rfl ?_
  exact bX9_anys_4 C  _ _ _ _ _ _ hf
theorem dX9_bit_0 : decode cX9_bit 0 = .ok (.aload_n 0, 1) := by decide +kernel
theorem dX9_bit_1 : decode cX9_bit 1 = .ok (.getfield 32, 3) := by decide +kernel
theorem dX9_bit_4 : decode cX9_bit 4 = .ok (.iconst 0, 1) := by decide +kernel
theorem dX9_bit_5 : decode cX9_bit 5 = .ok (.iaload, 1) := by decide +kernel
theorem dX9_bit_6 : decode cX9_bit 6 = .ok (.iload_n 1, 1) := by decide +kernel
theorem dX9_bit_7 : decode cX9_bit 7 = .ok (.ishr, 1) := by decide +kernel
theorem dX9_bit_8 : decode cX9_bit 8 = .ok (.iconst 1, 1) := by decide +kernel
theorem dX9_bit_9 : decode cX9_bit 9 = .ok (.iand, 1) := by decide +kernel
theorem dX9_bit_10 : decode cX9_bit 10 = .ok (.ireturn, 1) := by decide +kernel
def fX9_bit (g : PH) (a0 : Nat) (a1 : Int32) : Option (Int32 × PH) :=
  okb (isO g a0 9) ((getR g a0 9 16).bind fun p1 =>
  ((ldI g p1 0 (0 : Int32)).bind fun x3 =>
  (some (((x3 >>> (a1 &&& 31)) &&& (1 : Int32)), g))))
theorem oX9_bit {g : PH} {a0 : Nat} {a1 : Int32} {q : (Int32 × PH)} (h : fX9_bit g a0 a1 = some q) : isO g a0 9 = true := by unfold fX9_bit at h; exact (okb_some h).1
theorem hyX9_bit : hMet yX9_bit RX9 cX9_bit 2 (some .int) 1 := ⟨wd_1351, wd_1350, ws_82, wd_7, rfl, by decide +kernel, by decide +kernel, by decide +kernel⟩
set_option maxHeartbeats 4000000 in
set_option maxRecDepth 100000 in
theorem mX9_bit (l : Launch) (E : HE) (sz : Nat) {g g' : PH} {a0 : Nat} {a1 : Int32} {r : Int32} (hf : fX9_bit g a0 a1 = some (r, g')) : hM l E yX9_bit cX9_bit 2 (some .int) 0 0 0 0 sz g [.ref a0, .int a1] (some (.int r)) g' := by
  refine hM.of (by decide) (Nat.le_of_ble_eq_true rfl) (fun K hl C hin hsz => ?_)
  subst hl
  subst hsz
  have C : VC K E 2 cX9_bit RX9 (some .int) := C
  unfold fX9_bit at hf
  replace hf := okb_some hf
  obtain ⟨ho, hf⟩ := hf
  refine V.start (L' := [(0, .ref a0), (1, .int a1)]) rfl ?_
  refine V.aload_n (pc := 0) C dX9_bit_0 0 rfl ?_
  replace hf := ob_some hf
  obtain ⟨p1, h2, hf⟩ := hf
  refine V.getR (pc := 1) C kX9 (k := 16) (by decide) wd_1066 h2 dX9_bit_1 ?_
  refine V.iconst (pc := 4) C dX9_bit_4 (v := (0 : Int32)) (by decide) ?_
  replace hf := ob_some hf
  obtain ⟨x3, h4, hf⟩ := hf
  refine V.iald (pc := 5) C h4 dX9_bit_5 ?_
  refine V.iload_n (pc := 6) C dX9_bit_6 1 rfl ?_
  refine V.ishr (pc := 7) C dX9_bit_7 ?_
  refine V.iconst (pc := 8) C dX9_bit_8 (v := (1 : Int32)) (by decide) ?_
  refine V.iand (pc := 9) C dX9_bit_9 ?_
  obtain ⟨f1, f2⟩ := fin2 hf
  clear hf
  subst f1
  subst f2
  exact V.iret (pc := 10) C rfl dX9_bit_10
theorem dX9_sets_0 : decode cX9_sets 0 = .ok (.aload_n 0, 1) := by decide +kernel
theorem dX9_sets_1 : decode cX9_sets 1 = .ok (.getfield 32, 3) := by decide +kernel
theorem dX9_sets_4 : decode cX9_sets 4 = .ok (.iconst 0, 1) := by decide +kernel
theorem dX9_sets_5 : decode cX9_sets 5 = .ok (.aload_n 0, 1) := by decide +kernel
theorem dX9_sets_6 : decode cX9_sets 6 = .ok (.getfield 32, 3) := by decide +kernel
theorem dX9_sets_9 : decode cX9_sets 9 = .ok (.iconst 0, 1) := by decide +kernel
theorem dX9_sets_10 : decode cX9_sets 10 = .ok (.iaload, 1) := by decide +kernel
theorem dX9_sets_11 : decode cX9_sets 11 = .ok (.iload_n 1, 1) := by decide +kernel
theorem dX9_sets_12 : decode cX9_sets 12 = .ok (.iload_n 2, 1) := by decide +kernel
theorem dX9_sets_13 : decode cX9_sets 13 = .ok (.invokestatic 186, 3) := by decide +kernel
theorem dX9_sets_16 : decode cX9_sets 16 = .ok (.iastore, 1) := by decide +kernel
theorem dX9_sets_17 : decode cX9_sets 17 = .ok (.return_, 1) := by decide +kernel
def fX9_sets (g : PH) (a0 : Nat) (a1 : Int32) (a2 : Int32) : Option (Unit × PH) :=
  okb (isO g a0 9) ((getR g a0 9 16).bind fun p1 =>
  ((getR g a0 9 16).bind fun p3 =>
  ((ldI g p3 0 (0 : Int32)).bind fun x5 =>
  ((fX9_with g x5 a1 a2).bind fun q7 =>
  ((stI q7.2 p1 0 (0 : Int32) q7.1).bind fun g9 =>
  (some ((), g9)))))))
theorem oX9_sets {g : PH} {a0 : Nat} {a1 : Int32} {a2 : Int32} {q : (Unit × PH)} (h : fX9_sets g a0 a1 a2 = some q) : isO g a0 9 = true := by unfold fX9_sets at h; exact (okb_some h).1
theorem hyX9_sets : hMet yX9_sets RX9 cX9_sets 3 none 2 := ⟨wd_1344, wd_1343, ws_81, wd_7, rfl, by decide +kernel, by decide +kernel, by decide +kernel⟩
set_option maxHeartbeats 4000000 in
set_option maxRecDepth 100000 in
theorem mX9_sets (l : Launch) (E : HE) (sz : Nat) {g g' : PH} {a0 : Nat} {a1 : Int32} {a2 : Int32} {r : Unit} (hf : fX9_sets g a0 a1 a2 = some (r, g')) : hM l E yX9_sets cX9_sets 3 none 1 22 0 0 sz g [.ref a0, .int a1, .int a2] none g' := by
  refine hM.of (by decide) (Nat.le_of_ble_eq_true rfl) (fun K hl C hin hsz => ?_)
  subst hl
  subst hsz
  have C : VC K E 3 cX9_sets RX9 none := C
  unfold fX9_sets at hf
  replace hf := okb_some hf
  obtain ⟨ho, hf⟩ := hf
  refine V.start (L' := [(0, .ref a0), (1, .int a1), (2, .int a2)]) rfl ?_
  refine V.aload_n (pc := 0) C dX9_sets_0 0 rfl ?_
  replace hf := ob_some hf
  obtain ⟨p1, h2, hf⟩ := hf
  refine V.getR (pc := 1) C kX9 (k := 16) (by decide) wd_1066 h2 dX9_sets_1 ?_
  refine V.iconst (pc := 4) C dX9_sets_4 (v := (0 : Int32)) (by decide) ?_
  refine V.aload_n (pc := 5) C dX9_sets_5 0 rfl ?_
  replace hf := ob_some hf
  obtain ⟨p3, h4, hf⟩ := hf
  refine V.getR (pc := 6) C kX9 (k := 16) (by decide) wd_1066 h4 dX9_sets_6 ?_
  refine V.iconst (pc := 9) C dX9_sets_9 (v := (0 : Int32)) (by decide) ?_
  replace hf := ob_some hf
  obtain ⟨x5, h6, hf⟩ := hf
  refine V.iald (pc := 10) C h6 dX9_sets_10 ?_
  refine V.iload_n (pc := 11) C dX9_sets_11 1 rfl ?_
  refine V.iload_n (pc := 12) C dX9_sets_12 2 rfl ?_
  replace hf := ob_some hf
  obtain ⟨q7, h8, hf⟩ := hf
  refine V.callS0i (pc := 13) C hyX9_with wd_1345 (mX9_with (r := q7.1) (g' := q7.2) K.2.1 E (kS K) h8) rfl ⟨Nat.le_of_ble_eq_true rfl, Nat.le_of_ble_eq_true rfl⟩ (Nat.le_of_ble_eq_true rfl) dX9_sets_13 ⟨Nat.zero_le _, Nat.zero_le _⟩ rfl ?_
  replace hf := ob_some hf
  obtain ⟨g9, h10, hf⟩ := hf
  refine V.iast (pc := 16) C h10 dX9_sets_16 ?_
  obtain ⟨f1, f2⟩ := fin2 hf
  clear hf
  subst f1
  subst f2
  exact V.vret (pc := 17) C rfl dX9_sets_17
theorem dX9_ruleOf_0 : decode cX9_ruleOf 0 = .ok (.aload_n 0, 1) := by decide +kernel
theorem dX9_ruleOf_1 : decode cX9_ruleOf 1 = .ok (.getfield 32, 3) := by decide +kernel
theorem dX9_ruleOf_4 : decode cX9_ruleOf 4 = .ok (.iconst 1, 1) := by decide +kernel
theorem dX9_ruleOf_5 : decode cX9_ruleOf 5 = .ok (.iaload, 1) := by decide +kernel
theorem dX9_ruleOf_6 : decode cX9_ruleOf 6 = .ok (.istore 4, 2) := by decide +kernel
theorem dX9_ruleOf_8 : decode cX9_ruleOf 8 = .ok (.iconst 0, 1) := by decide +kernel
theorem dX9_ruleOf_9 : decode cX9_ruleOf 9 = .ok (.istore 5, 2) := by decide +kernel
theorem dX9_ruleOf_11 : decode cX9_ruleOf 11 = .ok (.iload 4, 2) := by decide +kernel
theorem dX9_ruleOf_13 : decode cX9_ruleOf 13 = .ok (.ifCond .lt 71, 3) := by decide +kernel
theorem dX9_ruleOf_16 : decode cX9_ruleOf 16 = .ok (.iload 5, 2) := by decide +kernel
theorem dX9_ruleOf_18 : decode cX9_ruleOf 18 = .ok (.aload_n 0, 1) := by decide +kernel
theorem dX9_ruleOf_19 : decode cX9_ruleOf 19 = .ok (.getfield 17, 3) := by decide +kernel
theorem dX9_ruleOf_22 : decode cX9_ruleOf 22 = .ok (.iload 4, 2) := by decide +kernel
theorem dX9_ruleOf_24 : decode cX9_ruleOf 24 = .ok (.iaload, 1) := by decide +kernel
theorem dX9_ruleOf_25 : decode cX9_ruleOf 25 = .ok (.if_icmp .ge 59, 3) := by decide +kernel
theorem dX9_ruleOf_28 : decode cX9_ruleOf 28 = .ok (.aload_n 0, 1) := by decide +kernel
theorem dX9_ruleOf_29 : decode cX9_ruleOf 29 = .ok (.iload 4, 2) := by decide +kernel
theorem dX9_ruleOf_31 : decode cX9_ruleOf 31 = .ok (.iload 5, 2) := by decide +kernel
theorem dX9_ruleOf_33 : decode cX9_ruleOf 33 = .ok (.iconst 0, 1) := by decide +kernel
theorem dX9_ruleOf_34 : decode cX9_ruleOf 34 = .ok (.invokevirtual 138, 3) := by decide +kernel
theorem dX9_ruleOf_37 : decode cX9_ruleOf 37 = .ok (.iload_n 1, 1) := by decide +kernel
theorem dX9_ruleOf_38 : decode cX9_ruleOf 38 = .ok (.if_icmp .ne 40, 3) := by decide +kernel
theorem dX9_ruleOf_41 : decode cX9_ruleOf 41 = .ok (.iload_n 2, 1) := by decide +kernel
theorem dX9_ruleOf_42 : decode cX9_ruleOf 42 = .ok (.ifCond .lt 16, 3) := by decide +kernel
theorem dX9_ruleOf_45 : decode cX9_ruleOf 45 = .ok (.aload_n 0, 1) := by decide +kernel
theorem dX9_ruleOf_46 : decode cX9_ruleOf 46 = .ok (.iload 4, 2) := by decide +kernel
theorem dX9_ruleOf_48 : decode cX9_ruleOf 48 = .ok (.iload 5, 2) := by decide +kernel
theorem dX9_ruleOf_50 : decode cX9_ruleOf 50 = .ok (.iconst 1, 1) := by decide +kernel
theorem dX9_ruleOf_51 : decode cX9_ruleOf 51 = .ok (.invokevirtual 138, 3) := by decide +kernel
theorem dX9_ruleOf_54 : decode cX9_ruleOf 54 = .ok (.iload_n 2, 1) := by decide +kernel
theorem dX9_ruleOf_55 : decode cX9_ruleOf 55 = .ok (.if_icmp .ne 23, 3) := by decide +kernel
theorem dX9_ruleOf_58 : decode cX9_ruleOf 58 = .ok (.iload_n 3, 1) := by decide +kernel
theorem dX9_ruleOf_59 : decode cX9_ruleOf 59 = .ok (.ifCond .lt 16, 3) := by decide +kernel
theorem dX9_ruleOf_62 : decode cX9_ruleOf 62 = .ok (.aload_n 0, 1) := by decide +kernel
theorem dX9_ruleOf_63 : decode cX9_ruleOf 63 = .ok (.iload 4, 2) := by decide +kernel
theorem dX9_ruleOf_65 : decode cX9_ruleOf 65 = .ok (.iload 5, 2) := by decide +kernel
theorem dX9_ruleOf_67 : decode cX9_ruleOf 67 = .ok (.iconst 2, 1) := by decide +kernel
theorem dX9_ruleOf_68 : decode cX9_ruleOf 68 = .ok (.invokevirtual 138, 3) := by decide +kernel
theorem dX9_ruleOf_71 : decode cX9_ruleOf 71 = .ok (.iload_n 3, 1) := by decide +kernel
theorem dX9_ruleOf_72 : decode cX9_ruleOf 72 = .ok (.if_icmp .ne 6, 3) := by decide +kernel
theorem dX9_ruleOf_75 : decode cX9_ruleOf 75 = .ok (.iload 5, 2) := by decide +kernel
theorem dX9_ruleOf_77 : decode cX9_ruleOf 77 = .ok (.ireturn, 1) := by decide +kernel
theorem dX9_ruleOf_78 : decode cX9_ruleOf 78 = .ok (.iinc 5 1, 3) := by decide +kernel
theorem dX9_ruleOf_81 : decode cX9_ruleOf 81 = .ok (.goto (-70), 3) := by decide +kernel
theorem dX9_ruleOf_84 : decode cX9_ruleOf 84 = .ok (.iconst (-1), 1) := by decide +kernel
theorem dX9_ruleOf_85 : decode cX9_ruleOf 85 = .ok (.ireturn, 1) := by decide +kernel
def fX9_ruleOf_78 (k11 : PH → Nat → Int32 → Int32 → Int32 → Int32 → Int32 → Option (Int32 × PH)) (g : PH) (v0 : Nat) (v1 : Int32) (v2 : Int32) (v3 : Int32) (v4 : Int32) (v5 : Int32) : Option (Int32 × PH) :=
  k11 g v0 v1 v2 v3 v4 (v5 + (1 : Int32))
set_option maxHeartbeats 4000000 in
set_option maxRecDepth 100000 in
theorem bX9_ruleOf_78 {K : HK} {E : HE} {r : Int32} {g' : PH} {k11 : PH → Nat → Int32 → Int32 → Int32 → Int32 → Int32 → Option (Int32 × PH)} (C : VC K E 6 cX9_ruleOf RX9 (some .int)) (hk11 : ∀ (g : PH) (v0 : Nat) (v1 : Int32) (v2 : Int32) (v3 : Int32) (v4 : Int32) (v5 : Int32), k11 g v0 v1 v2 v3 v4 v5 = some (r, g') → V K E (hRm 1 23 0 0) 6 (hZ K E (some (.int r)) g' 0 0) 0 0 (kS K) g 11 [(0, .ref v0), (1, .int v1), (2, .int v2), (3, .int v3), (4, .int v4), (5, .int v5)] []) {g : PH} {v0 : Nat} {v1 : Int32} {v2 : Int32} {v3 : Int32} {v4 : Int32} {v5 : Int32} (hf : fX9_ruleOf_78 k11 g v0 v1 v2 v3 v4 v5 = some (r, g')) : V K E (hRm 1 23 0 0) 6 (hZ K E (some (.int r)) g' 0 0) 0 0 (kS K) g 78 [(0, .ref v0), (1, .int v1), (2, .int v2), (3, .int v3), (4, .int v4), (5, .int v5)] [] := by
  unfold fX9_ruleOf_78 at hf
  refine V.iinc (pc := 78) (v := (v5 + (1 : Int32))) (L' := [(5, .int (v5 + (1 : Int32))), (0, .ref v0), (1, .int v1), (2, .int v2), (3, .int v3), (4, .int v4)]) C dX9_ruleOf_78 5 rfl rfl (by decide) rfl ?_
  refine V.goto (pc := 81) (t := 11) C dX9_ruleOf_81 (by decide) ?_
  refine V.sub (L' := [(0, .ref v0), (1, .int v1), (2, .int v2), (3, .int v3), (4, .int v4), (5, .int (v5 + (1 : Int32)))]) [1, 2, 3, 4, 5, 0] rfl ?_
  exact hk11 _ _ _ _ _ _ _ hf
def fX9_ruleOf_58 (k11 : PH → Nat → Int32 → Int32 → Int32 → Int32 → Int32 → Option (Int32 × PH)) (g : PH) (v0 : Nat) (v1 : Int32) (v2 : Int32) (v3 : Int32) (v4 : Int32) (v5 : Int32) : Option (Int32 × PH) :=
  if v3 < 0 then (some (v5, g)) else
  ((fX9_ruleAt g v0 v4 v5 (2 : Int32)).bind fun q2 =>
  (if q2.1 = v3 then (some (v5, q2.2)) else
  (fX9_ruleOf_78 (k11) q2.2 v0 v1 v2 v3 v4 v5)))
set_option maxHeartbeats 4000000 in
set_option maxRecDepth 100000 in
theorem bX9_ruleOf_58 {K : HK} {E : HE} {r : Int32} {g' : PH} {k11 : PH → Nat → Int32 → Int32 → Int32 → Int32 → Int32 → Option (Int32 × PH)} (C : VC K E 6 cX9_ruleOf RX9 (some .int)) (hk11 : ∀ (g : PH) (v0 : Nat) (v1 : Int32) (v2 : Int32) (v3 : Int32) (v4 : Int32) (v5 : Int32), k11 g v0 v1 v2 v3 v4 v5 = some (r, g') → V K E (hRm 1 23 0 0) 6 (hZ K E (some (.int r)) g' 0 0) 0 0 (kS K) g 11 [(0, .ref v0), (1, .int v1), (2, .int v2), (3, .int v3), (4, .int v4), (5, .int v5)] []) {g : PH} {v0 : Nat} {v1 : Int32} {v2 : Int32} {v3 : Int32} {v4 : Int32} {v5 : Int32} (hf : fX9_ruleOf_58 k11 g v0 v1 v2 v3 v4 v5 = some (r, g')) : V K E (hRm 1 23 0 0) 6 (hZ K E (some (.int r)) g' 0 0) 0 0 (kS K) g 58 [(0, .ref v0), (1, .int v1), (2, .int v2), (3, .int v3), (4, .int v4), (5, .int v5)] [] := by
  unfold fX9_ruleOf_58 at hf
  refine V.iload_n (pc := 58) C dX9_ruleOf_58 3 rfl ?_
  refine V.if_lt (pc := 59) (t := 75) C dX9_ruleOf_59 (by decide) (fun c1 => ?_) (fun c1 => ?_)
  · replace hf := ite_t c1 hf
    refine V.iload (pc := 75) C dX9_ruleOf_75 5 rfl ?_
    obtain ⟨f1, f2⟩ := fin2 hf
    clear hf
    subst f1
    subst f2
    exact V.iret (pc := 77) C rfl dX9_ruleOf_77
  replace hf := ite_f c1 hf
  refine V.aload_n (pc := 62) C dX9_ruleOf_62 0 rfl ?_
  refine V.iload (pc := 63) C dX9_ruleOf_63 4 rfl ?_
  refine V.iload (pc := 65) C dX9_ruleOf_65 5 rfl ?_
  refine V.iconst (pc := 67) C dX9_ruleOf_67 (v := (2 : Int32)) (by decide) ?_
  replace hf := ob_some hf
  obtain ⟨q2, h3, hf⟩ := hf
  refine V.callV0i (pc := 68) C hyX9_ruleAt wd_1212 (mX9_ruleAt (r := q2.1) (g' := q2.2) K.2.1 E (kS K) h3) rfl rfl rfl (oX9_ruleAt h3) ⟨Nat.le_of_ble_eq_true rfl, Nat.le_of_ble_eq_true rfl⟩ (Nat.le_of_ble_eq_true rfl) dX9_ruleOf_68 ⟨Nat.zero_le _, Nat.zero_le _⟩ rfl ?_
  refine V.iload_n (pc := 71) C dX9_ruleOf_71 3 rfl ?_
  refine V.icmp_ne (pc := 72) (t := 78) C dX9_ruleOf_72 (by decide) (fun c4 => ?_) (fun c4 => ?_)
  · replace hf := ite_f c4 hf
    refine V.sub (L' := [(0, .ref v0), (1, .int v1), (2, .int v2), (3, .int v3), (4, .int v4), (5, .int v5)]) [0, 1, 2, 3, 4, 5] rfl ?_
    exact bX9_ruleOf_78 C hk11 hf
  replace hf := ite_t c4 hf
  refine V.iload (pc := 75) C dX9_ruleOf_75 5 rfl ?_
  obtain ⟨f1, f2⟩ := fin2 hf
  clear hf
  subst f1
  subst f2
  exact V.iret (pc := 77) C rfl dX9_ruleOf_77
def fX9_ruleOf_11  : Nat → PH → Nat → Int32 → Int32 → Int32 → Int32 → Int32 → Option (Int32 × PH)
  | 0, _, _, _, _, _, _, _ => none
  | n + 1, g, v0, v1, v2, v3, v4, v5 =>
  if v4 < 0 then (some ((-1 : Int32), g)) else
  ((getR g v0 9 6).bind fun p2 =>
  ((ldI g p2 0 v4).bind fun x4 =>
  (if x4 ≤ v5 then (some ((-1 : Int32), g)) else
  ((fX9_ruleAt g v0 v4 v5 (0 : Int32)).bind fun q7 =>
  (if q7.1 = v1 then (if v2 < 0 then (fX9_ruleOf_58 (fX9_ruleOf_11 n) q7.2 v0 v1 v2 v3 v4 v5) else
  ((fX9_ruleAt q7.2 v0 v4 v5 (1 : Int32)).bind fun q11 =>
  (if q11.1 = v2 then (fX9_ruleOf_58 (fX9_ruleOf_11 n) q11.2 v0 v1 v2 v3 v4 v5) else
  (fX9_ruleOf_78 (fX9_ruleOf_11 n) q11.2 v0 v1 v2 v3 v4 v5)))) else
  (fX9_ruleOf_78 (fX9_ruleOf_11 n) q7.2 v0 v1 v2 v3 v4 v5))))))
set_option maxHeartbeats 4000000 in
set_option maxRecDepth 100000 in
theorem bX9_ruleOf_11 {K : HK} {E : HE} {r : Int32} {g' : PH}  (C : VC K E 6 cX9_ruleOf RX9 (some .int))  : ∀ (n : Nat) (g : PH) (v0 : Nat) (v1 : Int32) (v2 : Int32) (v3 : Int32) (v4 : Int32) (v5 : Int32), fX9_ruleOf_11  n g v0 v1 v2 v3 v4 v5 = some (r, g') → V K E (hRm 1 23 0 0) 6 (hZ K E (some (.int r)) g' 0 0) 0 0 (kS K) g 11 [(0, .ref v0), (1, .int v1), (2, .int v2), (3, .int v3), (4, .int v4), (5, .int v5)] [] := by
  intro n
  induction n with
  | zero =>
    intro g v0 v1 v2 v3 v4 v5 hf
    rw [fX9_ruleOf_11] at hf
    cases hf
  | succ n ih =>
    intro g v0 v1 v2 v3 v4 v5 hf
    rw [fX9_ruleOf_11] at hf
    refine V.iload (pc := 11) C dX9_ruleOf_11 4 rfl ?_
    refine V.if_lt (pc := 13) (t := 84) C dX9_ruleOf_13 (by decide) (fun c1 => ?_) (fun c1 => ?_)
    · replace hf := ite_t c1 hf
      refine V.iconst (pc := 84) C dX9_ruleOf_84 (v := (-1 : Int32)) (by decide) ?_
      obtain ⟨f1, f2⟩ := fin2 hf
      clear hf
      subst f1
      subst f2
      exact V.iret (pc := 85) C rfl dX9_ruleOf_85
    replace hf := ite_f c1 hf
    refine V.iload (pc := 16) C dX9_ruleOf_16 5 rfl ?_
    refine V.aload_n (pc := 18) C dX9_ruleOf_18 0 rfl ?_
    replace hf := ob_some hf
    obtain ⟨p2, h3, hf⟩ := hf
    refine V.getR (pc := 19) C kX9 (k := 6) (by decide) wd_1056 h3 dX9_ruleOf_19 ?_
    refine V.iload (pc := 22) C dX9_ruleOf_22 4 rfl ?_
    replace hf := ob_some hf
    obtain ⟨x4, h5, hf⟩ := hf
    refine V.iald (pc := 24) C h5 dX9_ruleOf_24 ?_
    refine V.icmp_ge (pc := 25) (t := 84) C dX9_ruleOf_25 (by decide) (fun c6 => ?_) (fun c6 => ?_)
    · replace hf := ite_t c6 hf
      refine V.iconst (pc := 84) C dX9_ruleOf_84 (v := (-1 : Int32)) (by decide) ?_
      obtain ⟨f1, f2⟩ := fin2 hf
      clear hf
      subst f1
      subst f2
      exact V.iret (pc := 85) C rfl dX9_ruleOf_85
    replace hf := ite_f c6 hf
    refine V.aload_n (pc := 28) C dX9_ruleOf_28 0 rfl ?_
    refine V.iload (pc := 29) C dX9_ruleOf_29 4 rfl ?_
    refine V.iload (pc := 31) C dX9_ruleOf_31 5 rfl ?_
    refine V.iconst (pc := 33) C dX9_ruleOf_33 (v := (0 : Int32)) (by decide) ?_
    replace hf := ob_some hf
    obtain ⟨q7, h8, hf⟩ := hf
    refine V.callV0i (pc := 34) C hyX9_ruleAt wd_1212 (mX9_ruleAt (r := q7.1) (g' := q7.2) K.2.1 E (kS K) h8) rfl rfl rfl (oX9_ruleAt h8) ⟨Nat.le_of_ble_eq_true rfl, Nat.le_of_ble_eq_true rfl⟩ (Nat.le_of_ble_eq_true rfl) dX9_ruleOf_34 ⟨Nat.zero_le _, Nat.zero_le _⟩ rfl ?_
    refine V.iload_n (pc := 37) C dX9_ruleOf_37 1 rfl ?_
    refine V.icmp_ne (pc := 38) (t := 78) C dX9_ruleOf_38 (by decide) (fun c9 => ?_) (fun c9 => ?_)
    · replace hf := ite_f c9 hf
      refine V.sub (L' := [(0, .ref v0), (1, .int v1), (2, .int v2), (3, .int v3), (4, .int v4), (5, .int v5)]) [0, 1, 2, 3, 4, 5] rfl ?_
      exact bX9_ruleOf_78 C ih hf
    replace hf := ite_t c9 hf
    refine V.iload_n (pc := 41) C dX9_ruleOf_41 2 rfl ?_
    refine V.if_lt (pc := 42) (t := 58) C dX9_ruleOf_42 (by decide) (fun c10 => ?_) (fun c10 => ?_)
    · replace hf := ite_t c10 hf
      refine V.sub (L' := [(0, .ref v0), (1, .int v1), (2, .int v2), (3, .int v3), (4, .int v4), (5, .int v5)]) [0, 1, 2, 3, 4, 5] rfl ?_
      exact bX9_ruleOf_58 C ih hf
    replace hf := ite_f c10 hf
    refine V.aload_n (pc := 45) C dX9_ruleOf_45 0 rfl ?_
    refine V.iload (pc := 46) C dX9_ruleOf_46 4 rfl ?_
    refine V.iload (pc := 48) C dX9_ruleOf_48 5 rfl ?_
    refine V.iconst (pc := 50) C dX9_ruleOf_50 (v := (1 : Int32)) (by decide) ?_
    replace hf := ob_some hf
    obtain ⟨q11, h12, hf⟩ := hf
    refine V.callV0i (pc := 51) C hyX9_ruleAt wd_1212 (mX9_ruleAt (r := q11.1) (g' := q11.2) K.2.1 E (kS K) h12) rfl rfl rfl (oX9_ruleAt h12) ⟨Nat.le_of_ble_eq_true rfl, Nat.le_of_ble_eq_true rfl⟩ (Nat.le_of_ble_eq_true rfl) dX9_ruleOf_51 ⟨Nat.zero_le _, Nat.zero_le _⟩ rfl ?_
    refine V.iload_n (pc := 54) C dX9_ruleOf_54 2 rfl ?_
    refine V.icmp_ne (pc := 55) (t := 78) C dX9_ruleOf_55 (by decide) (fun c13 => ?_) (fun c13 => ?_)
    · replace hf := ite_f c13 hf
      refine V.sub (L' := [(0, .ref v0), (1, .int v1), (2, .int v2), (3, .int v3), (4, .int v4), (5, .int v5)]) [0, 1, 2, 3, 4, 5] rfl ?_
      exact bX9_ruleOf_78 C ih hf
    replace hf := ite_t c13 hf
    refine V.sub (L' := [(0, .ref v0), (1, .int v1), (2, .int v2), (3, .int v3), (4, .int v4), (5, .int v5)]) [0, 1, 2, 3, 4, 5] rfl ?_
    exact bX9_ruleOf_58 C ih hf
def fX9_ruleOf (g : PH) (a0 : Nat) (a1 : Int32) (a2 : Int32) (a3 : Int32) : Option (Int32 × PH) :=
  okb (isO g a0 9) ((getR g a0 9 16).bind fun p1 =>
  ((ldI g p1 0 (1 : Int32)).bind fun x3 =>
  (fX9_ruleOf_11 FUEL g a0 a1 a2 a3 x3 (0 : Int32))))
theorem oX9_ruleOf {g : PH} {a0 : Nat} {a1 : Int32} {a2 : Int32} {a3 : Int32} {q : (Int32 × PH)} (h : fX9_ruleOf g a0 a1 a2 a3 = some q) : isO g a0 9 = true := by unfold fX9_ruleOf at h; exact (okb_some h).1
theorem hyX9_ruleOf : hMet yX9_ruleOf RX9 cX9_ruleOf 6 (some .int) 3 := ⟨wd_1336, wd_1335, ws_79, wd_7, rfl, by decide +kernel, by decide +kernel, by decide +kernel⟩
set_option maxHeartbeats 4000000 in
set_option maxRecDepth 100000 in
theorem mX9_ruleOf (l : Launch) (E : HE) (sz : Nat) {g g' : PH} {a0 : Nat} {a1 : Int32} {a2 : Int32} {a3 : Int32} {r : Int32} (hf : fX9_ruleOf g a0 a1 a2 a3 = some (r, g')) : hM l E yX9_ruleOf cX9_ruleOf 6 (some .int) 1 23 0 0 sz g [.ref a0, .int a1, .int a2, .int a3] (some (.int r)) g' := by
  refine hM.of (by decide) (Nat.le_of_ble_eq_true rfl) (fun K hl C hin hsz => ?_)
  subst hl
  subst hsz
  have C : VC K E 6 cX9_ruleOf RX9 (some .int) := C
  unfold fX9_ruleOf at hf
  replace hf := okb_some hf
  obtain ⟨ho, hf⟩ := hf
  refine V.start (L' := [(0, .ref a0), (1, .int a1), (2, .int a2), (3, .int a3)]) rfl ?_
  refine V.aload_n (pc := 0) C dX9_ruleOf_0 0 rfl ?_
  replace hf := ob_some hf
  obtain ⟨p1, h2, hf⟩ := hf
  refine V.getR (pc := 1) C kX9 (k := 16) (by decide) wd_1066 h2 dX9_ruleOf_1 ?_
  refine V.iconst (pc := 4) C dX9_ruleOf_4 (v := (1 : Int32)) (by decide) ?_
  replace hf := ob_some hf
  obtain ⟨x3, h4, hf⟩ := hf
  refine V.iald (pc := 5) C h4 dX9_ruleOf_5 ?_
  refine V.istore (pc := 6) (L' := [(4, .int x3), (0, .ref a0), (1, .int a1), (2, .int a2), (3, .int a3)]) C dX9_ruleOf_6 (by decide) rfl ?_
  refine V.iconst (pc := 8) C dX9_ruleOf_8 (v := (0 : Int32)) (by decide) ?_
  refine V.istore (pc := 9) (L' := [(5, .int (0 : Int32)), (4, .int x3), (0, .ref a0), (1, .int a1), (2, .int a2), (3, .int a3)]) C dX9_ruleOf_9 (by decide) rfl ?_
  refine V.sub (L' := [(0, .ref a0), (1, .int a1), (2, .int a2), (3, .int a3), (4, .int x3), (5, .int (0 : Int32))]) [2, 3, 4, 5, 1, 0] rfl ?_
  exact bX9_ruleOf_11 C  _ _ _ _ _ _ _ _ hf
theorem dX9_toldBy_0 : decode cX9_toldBy 0 = .ok (.aload_n 0, 1) := by decide +kernel
theorem dX9_toldBy_1 : decode cX9_toldBy 1 = .ok (.aload_n 0, 1) := by decide +kernel
theorem dX9_toldBy_2 : decode cX9_toldBy 2 = .ok (.getfield 32, 3) := by decide +kernel
theorem dX9_toldBy_5 : decode cX9_toldBy 5 = .ok (.iconst 1, 1) := by decide +kernel
theorem dX9_toldBy_6 : decode cX9_toldBy 6 = .ok (.iaload, 1) := by decide +kernel
theorem dX9_toldBy_7 : decode cX9_toldBy 7 = .ok (.iload_n 1, 1) := by decide +kernel
theorem dX9_toldBy_8 : decode cX9_toldBy 8 = .ok (.iload_n 2, 1) := by decide +kernel
theorem dX9_toldBy_9 : decode cX9_toldBy 9 = .ok (.invokevirtual 138, 3) := by decide +kernel
theorem dX9_toldBy_12 : decode cX9_toldBy 12 = .ok (.ireturn, 1) := by decide +kernel
def fX9_toldBy (g : PH) (a0 : Nat) (a1 : Int32) (a2 : Int32) : Option (Int32 × PH) :=
  okb (isO g a0 9) ((getR g a0 9 16).bind fun p1 =>
  ((ldI g p1 0 (1 : Int32)).bind fun x3 =>
  ((fX9_ruleAt g a0 x3 a1 a2).bind fun q5 =>
  (some (q5.1, q5.2)))))
theorem oX9_toldBy {g : PH} {a0 : Nat} {a1 : Int32} {a2 : Int32} {q : (Int32 × PH)} (h : fX9_toldBy g a0 a1 a2 = some q) : isO g a0 9 = true := by unfold fX9_toldBy at h; exact (okb_some h).1
theorem hyX9_toldBy : hMet yX9_toldBy RX9 cX9_toldBy 3 (some .int) 2 := ⟨wd_1340, wd_1339, ws_80, wd_7, rfl, by decide +kernel, by decide +kernel, by decide +kernel⟩
set_option maxHeartbeats 4000000 in
set_option maxRecDepth 100000 in
theorem mX9_toldBy (l : Launch) (E : HE) (sz : Nat) {g g' : PH} {a0 : Nat} {a1 : Int32} {a2 : Int32} {r : Int32} (hf : fX9_toldBy g a0 a1 a2 = some (r, g')) : hM l E yX9_toldBy cX9_toldBy 3 (some .int) 1 23 0 0 sz g [.ref a0, .int a1, .int a2] (some (.int r)) g' := by
  refine hM.of (by decide) (Nat.le_of_ble_eq_true rfl) (fun K hl C hin hsz => ?_)
  subst hl
  subst hsz
  have C : VC K E 3 cX9_toldBy RX9 (some .int) := C
  unfold fX9_toldBy at hf
  replace hf := okb_some hf
  obtain ⟨ho, hf⟩ := hf
  refine V.start (L' := [(0, .ref a0), (1, .int a1), (2, .int a2)]) rfl ?_
  refine V.aload_n (pc := 0) C dX9_toldBy_0 0 rfl ?_
  refine V.aload_n (pc := 1) C dX9_toldBy_1 0 rfl ?_
  replace hf := ob_some hf
  obtain ⟨p1, h2, hf⟩ := hf
  refine V.getR (pc := 2) C kX9 (k := 16) (by decide) wd_1066 h2 dX9_toldBy_2 ?_
  refine V.iconst (pc := 5) C dX9_toldBy_5 (v := (1 : Int32)) (by decide) ?_
  replace hf := ob_some hf
  obtain ⟨x3, h4, hf⟩ := hf
  refine V.iald (pc := 6) C h4 dX9_toldBy_6 ?_
  refine V.iload_n (pc := 7) C dX9_toldBy_7 1 rfl ?_
  refine V.iload_n (pc := 8) C dX9_toldBy_8 2 rfl ?_
  replace hf := ob_some hf
  obtain ⟨q5, h6, hf⟩ := hf
  refine V.callV0i (pc := 9) C hyX9_ruleAt wd_1212 (mX9_ruleAt (r := q5.1) (g' := q5.2) K.2.1 E (kS K) h6) rfl rfl rfl (oX9_ruleAt h6) ⟨Nat.le_of_ble_eq_true rfl, Nat.le_of_ble_eq_true rfl⟩ (Nat.le_of_ble_eq_true rfl) dX9_toldBy_9 ⟨Nat.zero_le _, Nat.zero_le _⟩ rfl ?_
  obtain ⟨f1, f2⟩ := fin2 hf
  clear hf
  subst f1
  subst f2
  exact V.iret (pc := 12) C rfl dX9_toldBy_12
theorem dX9_settles_0 : decode cX9_settles 0 = .ok (.aload_n 0, 1) := by decide +kernel
theorem dX9_settles_1 : decode cX9_settles 1 = .ok (.bipush 107, 2) := by decide +kernel
theorem dX9_settles_3 : decode cX9_settles 3 = .ok (.iconst (-1), 1) := by decide +kernel
theorem dX9_settles_4 : decode cX9_settles 4 = .ok (.iconst (-1), 1) := by decide +kernel
theorem dX9_settles_5 : decode cX9_settles 5 = .ok (.invokevirtual 189, 3) := by decide +kernel
theorem dX9_settles_8 : decode cX9_settles 8 = .ok (.istore_n 1, 1) := by decide +kernel
theorem dX9_settles_9 : decode cX9_settles 9 = .ok (.iload_n 1, 1) := by decide +kernel
theorem dX9_settles_10 : decode cX9_settles 10 = .ok (.ifCond .lt 19, 3) := by decide +kernel
theorem dX9_settles_13 : decode cX9_settles 13 = .ok (.aload_n 0, 1) := by decide +kernel
theorem dX9_settles_14 : decode cX9_settles 14 = .ok (.aload_n 0, 1) := by decide +kernel
theorem dX9_settles_15 : decode cX9_settles 15 = .ok (.getfield 32, 3) := by decide +kernel
theorem dX9_settles_18 : decode cX9_settles 18 = .ok (.iconst 3, 1) := by decide +kernel
theorem dX9_settles_19 : decode cX9_settles 19 = .ok (.iaload, 1) := by decide +kernel
theorem dX9_settles_20 : decode cX9_settles 20 = .ok (.aload_n 0, 1) := by decide +kernel
theorem dX9_settles_21 : decode cX9_settles 21 = .ok (.iload_n 1, 1) := by decide +kernel
theorem dX9_settles_22 : decode cX9_settles 22 = .ok (.iconst 3, 1) := by decide +kernel
theorem dX9_settles_23 : decode cX9_settles 23 = .ok (.invokevirtual 192, 3) := by decide +kernel
theorem dX9_settles_26 : decode cX9_settles 26 = .ok (.invokevirtual 196, 3) := by decide +kernel
theorem dX9_settles_29 : decode cX9_settles 29 = .ok (.iconst 0, 1) := by decide +kernel
theorem dX9_settles_30 : decode cX9_settles 30 = .ok (.istore_n 2, 1) := by decide +kernel
theorem dX9_settles_31 : decode cX9_settles 31 = .ok (.aload_n 0, 1) := by decide +kernel
theorem dX9_settles_32 : decode cX9_settles 32 = .ok (.getfield 32, 3) := by decide +kernel
theorem dX9_settles_35 : decode cX9_settles 35 = .ok (.iconst 1, 1) := by decide +kernel
theorem dX9_settles_36 : decode cX9_settles 36 = .ok (.iaload, 1) := by decide +kernel
theorem dX9_settles_37 : decode cX9_settles 37 = .ok (.ifCond .lt 70, 3) := by decide +kernel
theorem dX9_settles_40 : decode cX9_settles 40 = .ok (.iload_n 2, 1) := by decide +kernel
theorem dX9_settles_41 : decode cX9_settles 41 = .ok (.aload_n 0, 1) := by decide +kernel
theorem dX9_settles_42 : decode cX9_settles 42 = .ok (.getfield 17, 3) := by decide +kernel
theorem dX9_settles_45 : decode cX9_settles 45 = .ok (.aload_n 0, 1) := by decide +kernel
theorem dX9_settles_46 : decode cX9_settles 46 = .ok (.getfield 32, 3) := by decide +kernel
theorem dX9_settles_49 : decode cX9_settles 49 = .ok (.iconst 1, 1) := by decide +kernel
theorem dX9_settles_50 : decode cX9_settles 50 = .ok (.iaload, 1) := by decide +kernel
theorem dX9_settles_51 : decode cX9_settles 51 = .ok (.iaload, 1) := by decide +kernel
theorem dX9_settles_52 : decode cX9_settles 52 = .ok (.if_icmp .ge 55, 3) := by decide +kernel
theorem dX9_settles_55 : decode cX9_settles 55 = .ok (.aload_n 0, 1) := by decide +kernel
theorem dX9_settles_56 : decode cX9_settles 56 = .ok (.iload_n 2, 1) := by decide +kernel
theorem dX9_settles_57 : decode cX9_settles 57 = .ok (.iconst 0, 1) := by decide +kernel
theorem dX9_settles_58 : decode cX9_settles 58 = .ok (.invokevirtual 192, 3) := by decide +kernel
theorem dX9_settles_61 : decode cX9_settles 61 = .ok (.bipush 115, 2) := by decide +kernel
theorem dX9_settles_63 : decode cX9_settles 63 = .ok (.if_icmp .ne 38, 3) := by decide +kernel
theorem dX9_settles_66 : decode cX9_settles 66 = .ok (.aload_n 0, 1) := by decide +kernel
theorem dX9_settles_67 : decode cX9_settles 67 = .ok (.aload_n 0, 1) := by decide +kernel
theorem dX9_settles_68 : decode cX9_settles 68 = .ok (.getfield 32, 3) := by decide +kernel
theorem dX9_settles_71 : decode cX9_settles 71 = .ok (.iconst 2, 1) := by decide +kernel
theorem dX9_settles_72 : decode cX9_settles 72 = .ok (.iaload, 1) := by decide +kernel
theorem dX9_settles_73 : decode cX9_settles 73 = .ok (.invokevirtual 200, 3) := by decide +kernel
theorem dX9_settles_76 : decode cX9_settles 76 = .ok (.aload_n 0, 1) := by decide +kernel
theorem dX9_settles_77 : decode cX9_settles 77 = .ok (.iload_n 2, 1) := by decide +kernel
theorem dX9_settles_78 : decode cX9_settles 78 = .ok (.iconst 1, 1) := by decide +kernel
theorem dX9_settles_79 : decode cX9_settles 79 = .ok (.invokevirtual 192, 3) := by decide +kernel
theorem dX9_settles_82 : decode cX9_settles 82 = .ok (.if_icmp .ne 19, 3) := by decide +kernel
theorem dX9_settles_85 : decode cX9_settles 85 = .ok (.aload_n 0, 1) := by decide +kernel
theorem dX9_settles_86 : decode cX9_settles 86 = .ok (.aload_n 0, 1) := by decide +kernel
theorem dX9_settles_87 : decode cX9_settles 87 = .ok (.getfield 32, 3) := by decide +kernel
theorem dX9_settles_90 : decode cX9_settles 90 = .ok (.iconst 3, 1) := by decide +kernel
theorem dX9_settles_91 : decode cX9_settles 91 = .ok (.iaload, 1) := by decide +kernel
theorem dX9_settles_92 : decode cX9_settles 92 = .ok (.aload_n 0, 1) := by decide +kernel
theorem dX9_settles_93 : decode cX9_settles 93 = .ok (.iload_n 2, 1) := by decide +kernel
theorem dX9_settles_94 : decode cX9_settles 94 = .ok (.iconst 3, 1) := by decide +kernel
theorem dX9_settles_95 : decode cX9_settles 95 = .ok (.invokevirtual 192, 3) := by decide +kernel
theorem dX9_settles_98 : decode cX9_settles 98 = .ok (.invokevirtual 196, 3) := by decide +kernel
theorem dX9_settles_101 : decode cX9_settles 101 = .ok (.iinc 2 1, 3) := by decide +kernel
theorem dX9_settles_104 : decode cX9_settles 104 = .ok (.goto (-73), 3) := by decide +kernel
theorem dX9_settles_107 : decode cX9_settles 107 = .ok (.return_, 1) := by decide +kernel
def fX9_settles_101 (k31 : PH → Nat → Int32 → Option (Unit × PH)) (g : PH) (v0 : Nat) (v2 : Int32) : Option (Unit × PH) :=
  k31 g v0 (v2 + (1 : Int32))
set_option maxHeartbeats 4000000 in
set_option maxRecDepth 100000 in
theorem bX9_settles_101 {K : HK} {E : HE} {r : Unit} {g' : PH} {k31 : PH → Nat → Int32 → Option (Unit × PH)} (C : VC K E 3 cX9_settles RX9 none) (hk31 : ∀ (g : PH) (v0 : Nat) (v2 : Int32), k31 g v0 v2 = some (r, g') → V K E (hRm 2 48 0 0) 3 (hZ K E none g' 0 0) 0 0 (kS K) g 31 [(0, .ref v0), (2, .int v2)] []) {g : PH} {v0 : Nat} {v2 : Int32} (hf : fX9_settles_101 k31 g v0 v2 = some (r, g')) : V K E (hRm 2 48 0 0) 3 (hZ K E none g' 0 0) 0 0 (kS K) g 101 [(0, .ref v0), (2, .int v2)] [] := by
  unfold fX9_settles_101 at hf
  refine V.iinc (pc := 101) (v := (v2 + (1 : Int32))) (L' := [(2, .int (v2 + (1 : Int32))), (0, .ref v0)]) C dX9_settles_101 1 rfl rfl (by decide) rfl ?_
  refine V.goto (pc := 104) (t := 31) C dX9_settles_104 (by decide) ?_
  refine V.sub (L' := [(0, .ref v0), (2, .int (v2 + (1 : Int32)))]) [1, 0] rfl ?_
  exact hk31 _ _ _ hf
def fX9_settles_31  : Nat → PH → Nat → Int32 → Option (Unit × PH)
  | 0, _, _, _ => none
  | n + 1, g, v0, v2 =>
  (getR g v0 9 16).bind fun p1 =>
  ((ldI g p1 0 (1 : Int32)).bind fun x3 =>
  (if x3 < 0 then (some ((), g)) else
  ((getR g v0 9 6).bind fun p6 =>
  ((getR g v0 9 16).bind fun p8 =>
  ((ldI g p8 0 (1 : Int32)).bind fun x10 =>
  ((ldI g p6 0 x10).bind fun x12 =>
  (if x12 ≤ v2 then (some ((), g)) else
  ((fX9_toldBy g v0 v2 (0 : Int32)).bind fun q15 =>
  (if q15.1 = (115 : Int32) then ((getR q15.2 v0 9 16).bind fun p18 =>
  ((ldI q15.2 p18 0 (2 : Int32)).bind fun x20 =>
  ((fX9_bit q15.2 v0 x20).bind fun q22 =>
  ((fX9_toldBy q22.2 v0 v2 (1 : Int32)).bind fun q24 =>
  (if q22.1 = q24.1 then ((getR q24.2 v0 9 16).bind fun p27 =>
  ((ldI q24.2 p27 0 (3 : Int32)).bind fun x29 =>
  ((fX9_toldBy q24.2 v0 v2 (3 : Int32)).bind fun q31 =>
  ((fX9_sets q31.2 v0 x29 q31.1).bind fun q33 =>
  (fX9_settles_101 (fX9_settles_31 n) q33.2 v0 v2))))) else
  (fX9_settles_101 (fX9_settles_31 n) q24.2 v0 v2)))))) else
  (fX9_settles_101 (fX9_settles_31 n) q15.2 v0 v2))))))))))
set_option maxHeartbeats 4000000 in
set_option maxRecDepth 100000 in
theorem bX9_settles_31 {K : HK} {E : HE} {r : Unit} {g' : PH}  (C : VC K E 3 cX9_settles RX9 none)  : ∀ (n : Nat) (g : PH) (v0 : Nat) (v2 : Int32), fX9_settles_31  n g v0 v2 = some (r, g') → V K E (hRm 2 48 0 0) 3 (hZ K E none g' 0 0) 0 0 (kS K) g 31 [(0, .ref v0), (2, .int v2)] [] := by
  intro n
  induction n with
  | zero =>
    intro g v0 v2 hf
    rw [fX9_settles_31] at hf
    cases hf
  | succ n ih =>
    intro g v0 v2 hf
    rw [fX9_settles_31] at hf
    refine V.aload_n (pc := 31) C dX9_settles_31 0 rfl ?_
    replace hf := ob_some hf
    obtain ⟨p1, h2, hf⟩ := hf
    refine V.getR (pc := 32) C kX9 (k := 16) (by decide) wd_1066 h2 dX9_settles_32 ?_
    refine V.iconst (pc := 35) C dX9_settles_35 (v := (1 : Int32)) (by decide) ?_
    replace hf := ob_some hf
    obtain ⟨x3, h4, hf⟩ := hf
    refine V.iald (pc := 36) C h4 dX9_settles_36 ?_
    refine V.if_lt (pc := 37) (t := 107) C dX9_settles_37 (by decide) (fun c5 => ?_) (fun c5 => ?_)
    · replace hf := ite_t c5 hf
      obtain ⟨f1, f2⟩ := fin2 hf
      clear hf
      subst f1
      subst f2
      exact V.vret (pc := 107) C rfl dX9_settles_107
    replace hf := ite_f c5 hf
    refine V.iload_n (pc := 40) C dX9_settles_40 1 rfl ?_
    refine V.aload_n (pc := 41) C dX9_settles_41 0 rfl ?_
    replace hf := ob_some hf
    obtain ⟨p6, h7, hf⟩ := hf
    refine V.getR (pc := 42) C kX9 (k := 6) (by decide) wd_1056 h7 dX9_settles_42 ?_
    refine V.aload_n (pc := 45) C dX9_settles_45 0 rfl ?_
    replace hf := ob_some hf
    obtain ⟨p8, h9, hf⟩ := hf
    refine V.getR (pc := 46) C kX9 (k := 16) (by decide) wd_1066 h9 dX9_settles_46 ?_
    refine V.iconst (pc := 49) C dX9_settles_49 (v := (1 : Int32)) (by decide) ?_
    replace hf := ob_some hf
    obtain ⟨x10, h11, hf⟩ := hf
    refine V.iald (pc := 50) C h11 dX9_settles_50 ?_
    replace hf := ob_some hf
    obtain ⟨x12, h13, hf⟩ := hf
    refine V.iald (pc := 51) C h13 dX9_settles_51 ?_
    refine V.icmp_ge (pc := 52) (t := 107) C dX9_settles_52 (by decide) (fun c14 => ?_) (fun c14 => ?_)
    · replace hf := ite_t c14 hf
      obtain ⟨f1, f2⟩ := fin2 hf
      clear hf
      subst f1
      subst f2
      exact V.vret (pc := 107) C rfl dX9_settles_107
    replace hf := ite_f c14 hf
    refine V.aload_n (pc := 55) C dX9_settles_55 0 rfl ?_
    refine V.iload_n (pc := 56) C dX9_settles_56 1 rfl ?_
    refine V.iconst (pc := 57) C dX9_settles_57 (v := (0 : Int32)) (by decide) ?_
    replace hf := ob_some hf
    obtain ⟨q15, h16, hf⟩ := hf
    refine V.callV0i (pc := 58) C hyX9_toldBy wd_1337 (mX9_toldBy (r := q15.1) (g' := q15.2) K.2.1 E (kS K) h16) rfl rfl rfl (oX9_toldBy h16) ⟨Nat.le_of_ble_eq_true rfl, Nat.le_of_ble_eq_true rfl⟩ (Nat.le_of_ble_eq_true rfl) dX9_settles_58 ⟨Nat.zero_le _, Nat.zero_le _⟩ rfl ?_
    refine V.bipush (pc := 61) C dX9_settles_61 (v := (115 : Int32)) (by decide) ?_
    refine V.icmp_ne (pc := 63) (t := 101) C dX9_settles_63 (by decide) (fun c17 => ?_) (fun c17 => ?_)
    · replace hf := ite_f c17 hf
      refine V.sub (L' := [(0, .ref v0), (2, .int v2)]) [0, 1] rfl ?_
      exact bX9_settles_101 C ih hf
    replace hf := ite_t c17 hf
    refine V.aload_n (pc := 66) C dX9_settles_66 0 rfl ?_
    refine V.aload_n (pc := 67) C dX9_settles_67 0 rfl ?_
    replace hf := ob_some hf
    obtain ⟨p18, h19, hf⟩ := hf
    refine V.getR (pc := 68) C kX9 (k := 16) (by decide) wd_1066 h19 dX9_settles_68 ?_
    refine V.iconst (pc := 71) C dX9_settles_71 (v := (2 : Int32)) (by decide) ?_
    replace hf := ob_some hf
    obtain ⟨x20, h21, hf⟩ := hf
    refine V.iald (pc := 72) C h21 dX9_settles_72 ?_
    replace hf := ob_some hf
    obtain ⟨q22, h23, hf⟩ := hf
    refine V.callV0i (pc := 73) C hyX9_bit wd_1348 (mX9_bit (r := q22.1) (g' := q22.2) K.2.1 E (kS K) h23) rfl rfl rfl (oX9_bit h23) ⟨Nat.le_of_ble_eq_true rfl, Nat.le_of_ble_eq_true rfl⟩ (Nat.le_of_ble_eq_true rfl) dX9_settles_73 ⟨Nat.zero_le _, Nat.zero_le _⟩ rfl ?_
    refine V.aload_n (pc := 76) C dX9_settles_76 0 rfl ?_
    refine V.iload_n (pc := 77) C dX9_settles_77 1 rfl ?_
    refine V.iconst (pc := 78) C dX9_settles_78 (v := (1 : Int32)) (by decide) ?_
    replace hf := ob_some hf
    obtain ⟨q24, h25, hf⟩ := hf
    refine V.callV0i (pc := 79) C hyX9_toldBy wd_1337 (mX9_toldBy (r := q24.1) (g' := q24.2) K.2.1 E (kS K) h25) rfl rfl rfl (oX9_toldBy h25) ⟨Nat.le_of_ble_eq_true rfl, Nat.le_of_ble_eq_true rfl⟩ (Nat.le_of_ble_eq_true rfl) dX9_settles_79 ⟨Nat.zero_le _, Nat.zero_le _⟩ rfl ?_
    refine V.icmp_ne (pc := 82) (t := 101) C dX9_settles_82 (by decide) (fun c26 => ?_) (fun c26 => ?_)
    · replace hf := ite_f c26 hf
      refine V.sub (L' := [(0, .ref v0), (2, .int v2)]) [0, 1] rfl ?_
      exact bX9_settles_101 C ih hf
    replace hf := ite_t c26 hf
    refine V.aload_n (pc := 85) C dX9_settles_85 0 rfl ?_
    refine V.aload_n (pc := 86) C dX9_settles_86 0 rfl ?_
    replace hf := ob_some hf
    obtain ⟨p27, h28, hf⟩ := hf
    refine V.getR (pc := 87) C kX9 (k := 16) (by decide) wd_1066 h28 dX9_settles_87 ?_
    refine V.iconst (pc := 90) C dX9_settles_90 (v := (3 : Int32)) (by decide) ?_
    replace hf := ob_some hf
    obtain ⟨x29, h30, hf⟩ := hf
    refine V.iald (pc := 91) C h30 dX9_settles_91 ?_
    refine V.aload_n (pc := 92) C dX9_settles_92 0 rfl ?_
    refine V.iload_n (pc := 93) C dX9_settles_93 1 rfl ?_
    refine V.iconst (pc := 94) C dX9_settles_94 (v := (3 : Int32)) (by decide) ?_
    replace hf := ob_some hf
    obtain ⟨q31, h32, hf⟩ := hf
    refine V.callV0i (pc := 95) C hyX9_toldBy wd_1337 (mX9_toldBy (r := q31.1) (g' := q31.2) K.2.1 E (kS K) h32) rfl rfl rfl (oX9_toldBy h32) ⟨Nat.le_of_ble_eq_true rfl, Nat.le_of_ble_eq_true rfl⟩ (Nat.le_of_ble_eq_true rfl) dX9_settles_95 ⟨Nat.zero_le _, Nat.zero_le _⟩ rfl ?_
    replace hf := ob_some hf
    obtain ⟨q33, h34, hf⟩ := hf
    refine V.callV0v (pc := 98) C hyX9_sets wd_1341 (mX9_sets (r := q33.1) (g' := q33.2) K.2.1 E (kS K) h34) rfl rfl rfl (oX9_sets h34) ⟨Nat.le_of_ble_eq_true rfl, Nat.le_of_ble_eq_true rfl⟩ (Nat.le_of_ble_eq_true rfl) dX9_settles_98 ⟨Nat.zero_le _, Nat.zero_le _⟩ rfl ?_
    refine V.sub (L' := [(0, .ref v0), (2, .int v2)]) [0, 1] rfl ?_
    exact bX9_settles_101 C ih hf
def fX9_settles_29  (g : PH) (v0 : Nat) : Option (Unit × PH) :=
  fX9_settles_31 FUEL g v0 (0 : Int32)
set_option maxHeartbeats 4000000 in
set_option maxRecDepth 100000 in
theorem bX9_settles_29 {K : HK} {E : HE} {r : Unit} {g' : PH}  (C : VC K E 3 cX9_settles RX9 none)  {g : PH} {v0 : Nat} (hf : fX9_settles_29  g v0 = some (r, g')) : V K E (hRm 2 48 0 0) 3 (hZ K E none g' 0 0) 0 0 (kS K) g 29 [(0, .ref v0)] [] := by
  unfold fX9_settles_29 at hf
  refine V.iconst (pc := 29) C dX9_settles_29 (v := (0 : Int32)) (by decide) ?_
  refine V.istore_n (pc := 30) (L' := [(2, .int (0 : Int32)), (0, .ref v0)]) C dX9_settles_30 (by decide) rfl ?_
  refine V.sub (L' := [(0, .ref v0), (2, .int (0 : Int32))]) [1, 0] rfl ?_
  exact bX9_settles_31 C  _ _ _ _ hf
def fX9_settles (g : PH) (a0 : Nat) : Option (Unit × PH) :=
  okb (isO g a0 9) ((fX9_ruleOf g a0 (107 : Int32) (-1 : Int32) (-1 : Int32)).bind fun q1 =>
  (if q1.1 < 0 then (fX9_settles_29 q1.2 a0) else
  ((getR q1.2 a0 9 16).bind fun p4 =>
  ((ldI q1.2 p4 0 (3 : Int32)).bind fun x6 =>
  ((fX9_toldBy q1.2 a0 q1.1 (3 : Int32)).bind fun q8 =>
  ((fX9_sets q8.2 a0 x6 q8.1).bind fun q10 =>
  (fX9_settles_29 q10.2 a0)))))))
theorem oX9_settles {g : PH} {a0 : Nat} {q : (Unit × PH)} (h : fX9_settles g a0 = some q) : isO g a0 9 = true := by unfold fX9_settles at h; exact (okb_some h).1
theorem hyX9_settles : hMet yX9_settles RX9 cX9_settles 3 none 0 := ⟨wd_1332, wd_1331, ws_78, wd_7, rfl, by decide +kernel, by decide +kernel, by decide +kernel⟩
set_option maxHeartbeats 4000000 in
set_option maxRecDepth 100000 in
theorem mX9_settles (l : Launch) (E : HE) (sz : Nat) {g g' : PH} {a0 : Nat} {r : Unit} (hf : fX9_settles g a0 = some (r, g')) : hM l E yX9_settles cX9_settles 3 none 2 48 0 0 sz g [.ref a0] none g' := by
  refine hM.of (by decide) (Nat.le_of_ble_eq_true rfl) (fun K hl C hin hsz => ?_)
  subst hl
  subst hsz
  have C : VC K E 3 cX9_settles RX9 none := C
  unfold fX9_settles at hf
  replace hf := okb_some hf
  obtain ⟨ho, hf⟩ := hf
  refine V.start (L' := [(0, .ref a0)]) rfl ?_
  refine V.aload_n (pc := 0) C dX9_settles_0 0 rfl ?_
  refine V.bipush (pc := 1) C dX9_settles_1 (v := (107 : Int32)) (by decide) ?_
  refine V.iconst (pc := 3) C dX9_settles_3 (v := (-1 : Int32)) (by decide) ?_
  refine V.iconst (pc := 4) C dX9_settles_4 (v := (-1 : Int32)) (by decide) ?_
  replace hf := ob_some hf
  obtain ⟨q1, h2, hf⟩ := hf
  refine V.callV0i (pc := 5) C hyX9_ruleOf wd_1333 (mX9_ruleOf (r := q1.1) (g' := q1.2) K.2.1 E (kS K) h2) rfl rfl rfl (oX9_ruleOf h2) ⟨Nat.le_of_ble_eq_true rfl, Nat.le_of_ble_eq_true rfl⟩ (Nat.le_of_ble_eq_true rfl) dX9_settles_5 ⟨Nat.zero_le _, Nat.zero_le _⟩ rfl ?_
  refine V.istore_n (pc := 8) (L' := [(1, .int q1.1), (0, .ref a0)]) C dX9_settles_8 (by decide) rfl ?_
  refine V.iload_n (pc := 9) C dX9_settles_9 0 rfl ?_
  refine V.if_lt (pc := 10) (t := 29) C dX9_settles_10 (by decide) (fun c3 => ?_) (fun c3 => ?_)
  · replace hf := ite_t c3 hf
    refine V.sub (L' := [(0, .ref a0)]) [1] rfl ?_
    exact bX9_settles_29 C  hf
  replace hf := ite_f c3 hf
  refine V.aload_n (pc := 13) C dX9_settles_13 1 rfl ?_
  refine V.aload_n (pc := 14) C dX9_settles_14 1 rfl ?_
  replace hf := ob_some hf
  obtain ⟨p4, h5, hf⟩ := hf
  refine V.getR (pc := 15) C kX9 (k := 16) (by decide) wd_1066 h5 dX9_settles_15 ?_
  refine V.iconst (pc := 18) C dX9_settles_18 (v := (3 : Int32)) (by decide) ?_
  replace hf := ob_some hf
  obtain ⟨x6, h7, hf⟩ := hf
  refine V.iald (pc := 19) C h7 dX9_settles_19 ?_
  refine V.aload_n (pc := 20) C dX9_settles_20 1 rfl ?_
  refine V.iload_n (pc := 21) C dX9_settles_21 0 rfl ?_
  refine V.iconst (pc := 22) C dX9_settles_22 (v := (3 : Int32)) (by decide) ?_
  replace hf := ob_some hf
  obtain ⟨q8, h9, hf⟩ := hf
  refine V.callV0i (pc := 23) C hyX9_toldBy wd_1337 (mX9_toldBy (r := q8.1) (g' := q8.2) K.2.1 E (kS K) h9) rfl rfl rfl (oX9_toldBy h9) ⟨Nat.le_of_ble_eq_true rfl, Nat.le_of_ble_eq_true rfl⟩ (Nat.le_of_ble_eq_true rfl) dX9_settles_23 ⟨Nat.zero_le _, Nat.zero_le _⟩ rfl ?_
  replace hf := ob_some hf
  obtain ⟨q10, h11, hf⟩ := hf
  refine V.callV0v (pc := 26) C hyX9_sets wd_1341 (mX9_sets (r := q10.1) (g' := q10.2) K.2.1 E (kS K) h11) rfl rfl rfl (oX9_sets h11) ⟨Nat.le_of_ble_eq_true rfl, Nat.le_of_ble_eq_true rfl⟩ (Nat.le_of_ble_eq_true rfl) dX9_settles_26 ⟨Nat.zero_le _, Nat.zero_le _⟩ rfl ?_
  refine V.sub (L' := [(0, .ref a0)]) [1] rfl ?_
  exact bX9_settles_29 C  hf
theorem dX9_follows_0 : decode cX9_follows 0 = .ok (.iload_n 1, 1) := by decide +kernel
theorem dX9_follows_1 : decode cX9_follows 1 = .ok (.aload_n 0, 1) := by decide +kernel
theorem dX9_follows_2 : decode cX9_follows 2 = .ok (.getfield 32, 3) := by decide +kernel
theorem dX9_follows_5 : decode cX9_follows 5 = .ok (.iconst 2, 1) := by decide +kernel
theorem dX9_follows_6 : decode cX9_follows 6 = .ok (.iaload, 1) := by decide +kernel
theorem dX9_follows_7 : decode cX9_follows 7 = .ok (.if_icmp .eq 4, 3) := by decide +kernel
theorem dX9_follows_10 : decode cX9_follows 10 = .ok (.return_, 1) := by decide +kernel
theorem dX9_follows_11 : decode cX9_follows 11 = .ok (.aload_n 0, 1) := by decide +kernel
theorem dX9_follows_12 : decode cX9_follows 12 = .ok (.bipush 97, 2) := by decide +kernel
theorem dX9_follows_14 : decode cX9_follows 14 = .ok (.iload_n 2, 1) := by decide +kernel
theorem dX9_follows_15 : decode cX9_follows 15 = .ok (.iload_n 3, 1) := by decide +kernel
theorem dX9_follows_16 : decode cX9_follows 16 = .ok (.invokevirtual 189, 3) := by decide +kernel
theorem dX9_follows_19 : decode cX9_follows 19 = .ok (.istore 4, 2) := by decide +kernel
theorem dX9_follows_21 : decode cX9_follows 21 = .ok (.iload 4, 2) := by decide +kernel
theorem dX9_follows_23 : decode cX9_follows 23 = .ok (.ifCond .lt 46, 3) := by decide +kernel
theorem dX9_follows_26 : decode cX9_follows 26 = .ok (.aload_n 0, 1) := by decide +kernel
theorem dX9_follows_27 : decode cX9_follows 27 = .ok (.aload_n 0, 1) := by decide +kernel
theorem dX9_follows_28 : decode cX9_follows 28 = .ok (.getfield 32, 3) := by decide +kernel
theorem dX9_follows_31 : decode cX9_follows 31 = .ok (.iconst 3, 1) := by decide +kernel
theorem dX9_follows_32 : decode cX9_follows 32 = .ok (.iaload, 1) := by decide +kernel
theorem dX9_follows_33 : decode cX9_follows 33 = .ok (.aload_n 0, 1) := by decide +kernel
theorem dX9_follows_34 : decode cX9_follows 34 = .ok (.iload 4, 2) := by decide +kernel
theorem dX9_follows_36 : decode cX9_follows 36 = .ok (.iconst 3, 1) := by decide +kernel
theorem dX9_follows_37 : decode cX9_follows 37 = .ok (.invokevirtual 192, 3) := by decide +kernel
theorem dX9_follows_40 : decode cX9_follows 40 = .ok (.iconst 2, 1) := by decide +kernel
theorem dX9_follows_41 : decode cX9_follows 41 = .ok (.if_icmp .ne 18, 3) := by decide +kernel
theorem dX9_follows_44 : decode cX9_follows 44 = .ok (.iconst 1, 1) := by decide +kernel
theorem dX9_follows_45 : decode cX9_follows 45 = .ok (.aload_n 0, 1) := by decide +kernel
theorem dX9_follows_46 : decode cX9_follows 46 = .ok (.aload_n 0, 1) := by decide +kernel
theorem dX9_follows_47 : decode cX9_follows 47 = .ok (.getfield 32, 3) := by decide +kernel
theorem dX9_follows_50 : decode cX9_follows 50 = .ok (.iconst 3, 1) := by decide +kernel
theorem dX9_follows_51 : decode cX9_follows 51 = .ok (.iaload, 1) := by decide +kernel
theorem dX9_follows_52 : decode cX9_follows 52 = .ok (.invokevirtual 200, 3) := by decide +kernel
theorem dX9_follows_55 : decode cX9_follows 55 = .ok (.isub, 1) := by decide +kernel
theorem dX9_follows_56 : decode cX9_follows 56 = .ok (.goto 10, 3) := by decide +kernel
theorem dX9_follows_59 : decode cX9_follows 59 = .ok (.aload_n 0, 1) := by decide +kernel
theorem dX9_follows_60 : decode cX9_follows 60 = .ok (.iload 4, 2) := by decide +kernel
theorem dX9_follows_62 : decode cX9_follows 62 = .ok (.iconst 3, 1) := by decide +kernel
theorem dX9_follows_63 : decode cX9_follows 63 = .ok (.invokevirtual 192, 3) := by decide +kernel
theorem dX9_follows_66 : decode cX9_follows 66 = .ok (.invokevirtual 196, 3) := by decide +kernel
theorem dX9_follows_69 : decode cX9_follows 69 = .ok (.return_, 1) := by decide +kernel
def fX9_follows_66  (g : PH) (s0 : Int32) (s1 : Int32) (s2 : Nat) : Option (Unit × PH) :=
  (fX9_sets g s2 s1 s0).bind fun q1 =>
  (some ((), q1.2))
set_option maxHeartbeats 4000000 in
set_option maxRecDepth 100000 in
theorem bX9_follows_66 {K : HK} {E : HE} {r : Unit} {g' : PH}  (C : VC K E 5 cX9_follows RX9 none)  {g : PH} {s0 : Int32} {s1 : Int32} {s2 : Nat} (hf : fX9_follows_66  g s0 s1 s2 = some (r, g')) : V K E (hRm 2 48 0 0) 5 (hZ K E none g' 0 0) 0 0 (kS K) g 66 [] [.int s0, .int s1, .ref s2] := by
  unfold fX9_follows_66 at hf
  replace hf := ob_some hf
  obtain ⟨q1, h2, hf⟩ := hf
  refine V.callV0v (pc := 66) C hyX9_sets wd_1341 (mX9_sets (r := q1.1) (g' := q1.2) K.2.1 E (kS K) h2) rfl rfl rfl (oX9_sets h2) ⟨Nat.le_of_ble_eq_true rfl, Nat.le_of_ble_eq_true rfl⟩ (Nat.le_of_ble_eq_true rfl) dX9_follows_66 ⟨Nat.zero_le _, Nat.zero_le _⟩ rfl ?_
  obtain ⟨f1, f2⟩ := fin2 hf
  clear hf
  subst f1
  subst f2
  exact V.vret (pc := 69) C rfl dX9_follows_69
def fX9_follows (g : PH) (a0 : Nat) (a1 : Int32) (a2 : Int32) (a3 : Int32) : Option (Unit × PH) :=
  okb (isO g a0 9) ((getR g a0 9 16).bind fun p1 =>
  ((ldI g p1 0 (2 : Int32)).bind fun x3 =>
  (if a1 = x3 then ((fX9_ruleOf g a0 (97 : Int32) a2 a3).bind fun q6 =>
  (if q6.1 < 0 then (some ((), q6.2)) else
  ((getR q6.2 a0 9 16).bind fun p9 =>
  ((ldI q6.2 p9 0 (3 : Int32)).bind fun x11 =>
  ((fX9_toldBy q6.2 a0 q6.1 (3 : Int32)).bind fun q13 =>
  (if q13.1 = (2 : Int32) then ((getR q13.2 a0 9 16).bind fun p18 =>
  ((ldI q13.2 p18 0 (3 : Int32)).bind fun x20 =>
  ((fX9_bit q13.2 a0 x20).bind fun q22 =>
  (fX9_follows_66 q22.2 ((1 : Int32) - q22.1) x11 a0)))) else
  ((fX9_toldBy q13.2 a0 q6.1 (3 : Int32)).bind fun q16 =>
  (fX9_follows_66 q16.2 q16.1 x11 a0)))))))) else
  (some ((), g)))))
theorem oX9_follows {g : PH} {a0 : Nat} {a1 : Int32} {a2 : Int32} {a3 : Int32} {q : (Unit × PH)} (h : fX9_follows g a0 a1 a2 a3 = some q) : isO g a0 9 = true := by unfold fX9_follows at h; exact (okb_some h).1
theorem hyX9_follows : hMet yX9_follows RX9 cX9_follows 5 none 3 := ⟨wd_1379, wd_1378, ws_89, wd_7, rfl, by decide +kernel, by decide +kernel, by decide +kernel⟩
set_option maxHeartbeats 4000000 in
set_option maxRecDepth 100000 in
theorem mX9_follows (l : Launch) (E : HE) (sz : Nat) {g g' : PH} {a0 : Nat} {a1 : Int32} {a2 : Int32} {a3 : Int32} {r : Unit} (hf : fX9_follows g a0 a1 a2 a3 = some (r, g')) : hM l E yX9_follows cX9_follows 5 none 2 48 0 0 sz g [.ref a0, .int a1, .int a2, .int a3] none g' := by
  refine hM.of (by decide) (Nat.le_of_ble_eq_true rfl) (fun K hl C hin hsz => ?_)
  subst hl
  subst hsz
  have C : VC K E 5 cX9_follows RX9 none := C
  unfold fX9_follows at hf
  replace hf := okb_some hf
  obtain ⟨ho, hf⟩ := hf
  refine V.start (L' := [(0, .ref a0), (1, .int a1), (2, .int a2), (3, .int a3)]) rfl ?_
  refine V.iload_n (pc := 0) C dX9_follows_0 1 rfl ?_
  refine V.aload_n (pc := 1) C dX9_follows_1 0 rfl ?_
  replace hf := ob_some hf
  obtain ⟨p1, h2, hf⟩ := hf
  refine V.getR (pc := 2) C kX9 (k := 16) (by decide) wd_1066 h2 dX9_follows_2 ?_
  refine V.iconst (pc := 5) C dX9_follows_5 (v := (2 : Int32)) (by decide) ?_
  replace hf := ob_some hf
  obtain ⟨x3, h4, hf⟩ := hf
  refine V.iald (pc := 6) C h4 dX9_follows_6 ?_
  refine V.icmp_eq (pc := 7) (t := 11) C dX9_follows_7 (by decide) (fun c5 => ?_) (fun c5 => ?_)
  · replace hf := ite_t c5 hf
    refine V.aload_n (pc := 11) C dX9_follows_11 0 rfl ?_
    refine V.bipush (pc := 12) C dX9_follows_12 (v := (97 : Int32)) (by decide) ?_
    refine V.iload_n (pc := 14) C dX9_follows_14 2 rfl ?_
    refine V.iload_n (pc := 15) C dX9_follows_15 3 rfl ?_
    replace hf := ob_some hf
    obtain ⟨q6, h7, hf⟩ := hf
    refine V.callV0i (pc := 16) C hyX9_ruleOf wd_1333 (mX9_ruleOf (r := q6.1) (g' := q6.2) K.2.1 E (kS K) h7) rfl rfl rfl (oX9_ruleOf h7) ⟨Nat.le_of_ble_eq_true rfl, Nat.le_of_ble_eq_true rfl⟩ (Nat.le_of_ble_eq_true rfl) dX9_follows_16 ⟨Nat.zero_le _, Nat.zero_le _⟩ rfl ?_
    refine V.istore (pc := 19) (L' := [(4, .int q6.1), (0, .ref a0), (1, .int a1), (2, .int a2), (3, .int a3)]) C dX9_follows_19 (by decide) rfl ?_
    refine V.iload (pc := 21) C dX9_follows_21 0 rfl ?_
    refine V.if_lt (pc := 23) (t := 69) C dX9_follows_23 (by decide) (fun c8 => ?_) (fun c8 => ?_)
    · replace hf := ite_t c8 hf
      obtain ⟨f1, f2⟩ := fin2 hf
      clear hf
      subst f1
      subst f2
      exact V.vret (pc := 69) C rfl dX9_follows_69
    replace hf := ite_f c8 hf
    refine V.aload_n (pc := 26) C dX9_follows_26 1 rfl ?_
    refine V.aload_n (pc := 27) C dX9_follows_27 1 rfl ?_
    replace hf := ob_some hf
    obtain ⟨p9, h10, hf⟩ := hf
    refine V.getR (pc := 28) C kX9 (k := 16) (by decide) wd_1066 h10 dX9_follows_28 ?_
    refine V.iconst (pc := 31) C dX9_follows_31 (v := (3 : Int32)) (by decide) ?_
    replace hf := ob_some hf
    obtain ⟨x11, h12, hf⟩ := hf
    refine V.iald (pc := 32) C h12 dX9_follows_32 ?_
    refine V.aload_n (pc := 33) C dX9_follows_33 1 rfl ?_
    refine V.iload (pc := 34) C dX9_follows_34 0 rfl ?_
    refine V.iconst (pc := 36) C dX9_follows_36 (v := (3 : Int32)) (by decide) ?_
    replace hf := ob_some hf
    obtain ⟨q13, h14, hf⟩ := hf
    refine V.callV0i (pc := 37) C hyX9_toldBy wd_1337 (mX9_toldBy (r := q13.1) (g' := q13.2) K.2.1 E (kS K) h14) rfl rfl rfl (oX9_toldBy h14) ⟨Nat.le_of_ble_eq_true rfl, Nat.le_of_ble_eq_true rfl⟩ (Nat.le_of_ble_eq_true rfl) dX9_follows_37 ⟨Nat.zero_le _, Nat.zero_le _⟩ rfl ?_
    refine V.iconst (pc := 40) C dX9_follows_40 (v := (2 : Int32)) (by decide) ?_
    refine V.icmp_ne (pc := 41) (t := 59) C dX9_follows_41 (by decide) (fun c15 => ?_) (fun c15 => ?_)
    · replace hf := ite_f c15 hf
      refine V.aload_n (pc := 59) C dX9_follows_59 1 rfl ?_
      refine V.iload (pc := 60) C dX9_follows_60 0 rfl ?_
      refine V.iconst (pc := 62) C dX9_follows_62 (v := (3 : Int32)) (by decide) ?_
      replace hf := ob_some hf
      obtain ⟨q16, h17, hf⟩ := hf
      refine V.callV0i (pc := 63) C hyX9_toldBy wd_1337 (mX9_toldBy (r := q16.1) (g' := q16.2) K.2.1 E (kS K) h17) rfl rfl rfl (oX9_toldBy h17) ⟨Nat.le_of_ble_eq_true rfl, Nat.le_of_ble_eq_true rfl⟩ (Nat.le_of_ble_eq_true rfl) dX9_follows_63 ⟨Nat.zero_le _, Nat.zero_le _⟩ rfl ?_
      refine V.sub (L' := []) [] rfl ?_
      exact bX9_follows_66 C  hf
    replace hf := ite_t c15 hf
    refine V.iconst (pc := 44) C dX9_follows_44 (v := (1 : Int32)) (by decide) ?_
    refine V.aload_n (pc := 45) C dX9_follows_45 1 rfl ?_
    refine V.aload_n (pc := 46) C dX9_follows_46 1 rfl ?_
    replace hf := ob_some hf
    obtain ⟨p18, h19, hf⟩ := hf
    refine V.getR (pc := 47) C kX9 (k := 16) (by decide) wd_1066 h19 dX9_follows_47 ?_
    refine V.iconst (pc := 50) C dX9_follows_50 (v := (3 : Int32)) (by decide) ?_
    replace hf := ob_some hf
    obtain ⟨x20, h21, hf⟩ := hf
    refine V.iald (pc := 51) C h21 dX9_follows_51 ?_
    replace hf := ob_some hf
    obtain ⟨q22, h23, hf⟩ := hf
    refine V.callV0i (pc := 52) C hyX9_bit wd_1348 (mX9_bit (r := q22.1) (g' := q22.2) K.2.1 E (kS K) h23) rfl rfl rfl (oX9_bit h23) ⟨Nat.le_of_ble_eq_true rfl, Nat.le_of_ble_eq_true rfl⟩ (Nat.le_of_ble_eq_true rfl) dX9_follows_52 ⟨Nat.zero_le _, Nat.zero_le _⟩ rfl ?_
    refine V.isub (pc := 55) C dX9_follows_55 ?_
    refine V.goto (pc := 56) (t := 66) C dX9_follows_56 (by decide) ?_
    refine V.sub (L' := []) [] rfl ?_
    exact bX9_follows_66 C  hf
  replace hf := ite_f c5 hf
  obtain ⟨f1, f2⟩ := fin2 hf
  clear hf
  subst f1
  subst f2
  exact V.vret (pc := 10) C rfl dX9_follows_10
theorem dX9_writes_0 : decode cX9_writes 0 = .ok (.aload_n 0, 1) := by decide +kernel
theorem dX9_writes_1 : decode cX9_writes 1 = .ok (.iload_n 1, 1) := by decide +kernel
theorem dX9_writes_2 : decode cX9_writes 2 = .ok (.invokevirtual 200, 3) := by decide +kernel
theorem dX9_writes_5 : decode cX9_writes 5 = .ok (.istore_n 3, 1) := by decide +kernel
theorem dX9_writes_6 : decode cX9_writes 6 = .ok (.iload_n 1, 1) := by decide +kernel
theorem dX9_writes_7 : decode cX9_writes 7 = .ok (.aload_n 0, 1) := by decide +kernel
theorem dX9_writes_8 : decode cX9_writes 8 = .ok (.getfield 32, 3) := by decide +kernel
theorem dX9_writes_11 : decode cX9_writes 11 = .ok (.iconst 3, 1) := by decide +kernel
theorem dX9_writes_12 : decode cX9_writes 12 = .ok (.iaload, 1) := by decide +kernel
theorem dX9_writes_13 : decode cX9_writes 13 = .ok (.if_icmp .ne 14, 3) := by decide +kernel
theorem dX9_writes_16 : decode cX9_writes 16 = .ok (.aload_n 0, 1) := by decide +kernel
theorem dX9_writes_17 : decode cX9_writes 17 = .ok (.bipush 118, 2) := by decide +kernel
theorem dX9_writes_19 : decode cX9_writes 19 = .ok (.iload_n 3, 1) := by decide +kernel
theorem dX9_writes_20 : decode cX9_writes 20 = .ok (.iload_n 2, 1) := by decide +kernel
theorem dX9_writes_21 : decode cX9_writes 21 = .ok (.invokevirtual 189, 3) := by decide +kernel
theorem dX9_writes_24 : decode cX9_writes 24 = .ok (.goto 4, 3) := by decide +kernel
theorem dX9_writes_27 : decode cX9_writes 27 = .ok (.iconst (-1), 1) := by decide +kernel
theorem dX9_writes_28 : decode cX9_writes 28 = .ok (.istore 4, 2) := by decide +kernel
theorem dX9_writes_30 : decode cX9_writes 30 = .ok (.aload_n 0, 1) := by decide +kernel
theorem dX9_writes_31 : decode cX9_writes 31 = .ok (.iload_n 1, 1) := by decide +kernel
theorem dX9_writes_32 : decode cX9_writes 32 = .ok (.iload 4, 2) := by decide +kernel
theorem dX9_writes_34 : decode cX9_writes 34 = .ok (.ifCond .lt 13, 3) := by decide +kernel
theorem dX9_writes_37 : decode cX9_writes 37 = .ok (.aload_n 0, 1) := by decide +kernel
theorem dX9_writes_38 : decode cX9_writes 38 = .ok (.iload 4, 2) := by decide +kernel
theorem dX9_writes_40 : decode cX9_writes 40 = .ok (.iconst 3, 1) := by decide +kernel
theorem dX9_writes_41 : decode cX9_writes 41 = .ok (.invokevirtual 192, 3) := by decide +kernel
theorem dX9_writes_44 : decode cX9_writes 44 = .ok (.goto 4, 3) := by decide +kernel
theorem dX9_writes_47 : decode cX9_writes 47 = .ok (.iload_n 2, 1) := by decide +kernel
theorem dX9_writes_48 : decode cX9_writes 48 = .ok (.invokevirtual 196, 3) := by decide +kernel
theorem dX9_writes_51 : decode cX9_writes 51 = .ok (.aload_n 0, 1) := by decide +kernel
theorem dX9_writes_52 : decode cX9_writes 52 = .ok (.iload_n 1, 1) := by decide +kernel
theorem dX9_writes_53 : decode cX9_writes 53 = .ok (.iload_n 3, 1) := by decide +kernel
theorem dX9_writes_54 : decode cX9_writes 54 = .ok (.iload_n 2, 1) := by decide +kernel
theorem dX9_writes_55 : decode cX9_writes 55 = .ok (.invokevirtual 203, 3) := by decide +kernel
theorem dX9_writes_58 : decode cX9_writes 58 = .ok (.aload_n 0, 1) := by decide +kernel
theorem dX9_writes_59 : decode cX9_writes 59 = .ok (.invokevirtual 207, 3) := by decide +kernel
theorem dX9_writes_62 : decode cX9_writes 62 = .ok (.return_, 1) := by decide +kernel
def fX9_writes_48  (g : PH) (v0 : Nat) (v1 : Int32) (v2 : Int32) (v3 : Int32) (s0 : Int32) (s1 : Int32) (s2 : Nat) : Option (Unit × PH) :=
  (fX9_sets g s2 s1 s0).bind fun q1 =>
  ((fX9_follows q1.2 v0 v1 v3 v2).bind fun q3 =>
  ((fX9_settles q3.2 v0).bind fun q5 =>
  (some ((), q5.2))))
set_option maxHeartbeats 4000000 in
set_option maxRecDepth 100000 in
theorem bX9_writes_48 {K : HK} {E : HE} {r : Unit} {g' : PH}  (C : VC K E 5 cX9_writes RX9 none)  {g : PH} {v0 : Nat} {v1 : Int32} {v2 : Int32} {v3 : Int32} {s0 : Int32} {s1 : Int32} {s2 : Nat} (hf : fX9_writes_48  g v0 v1 v2 v3 s0 s1 s2 = some (r, g')) : V K E (hRm 3 72 0 0) 5 (hZ K E none g' 0 0) 0 0 (kS K) g 48 [(0, .ref v0), (1, .int v1), (2, .int v2), (3, .int v3)] [.int s0, .int s1, .ref s2] := by
  unfold fX9_writes_48 at hf
  replace hf := ob_some hf
  obtain ⟨q1, h2, hf⟩ := hf
  refine V.callV0v (pc := 48) C hyX9_sets wd_1341 (mX9_sets (r := q1.1) (g' := q1.2) K.2.1 E (kS K) h2) rfl rfl rfl (oX9_sets h2) ⟨Nat.le_of_ble_eq_true rfl, Nat.le_of_ble_eq_true rfl⟩ (Nat.le_of_ble_eq_true rfl) dX9_writes_48 ⟨Nat.zero_le _, Nat.zero_le _⟩ rfl ?_
  refine V.aload_n (pc := 51) C dX9_writes_51 0 rfl ?_
  refine V.iload_n (pc := 52) C dX9_writes_52 1 rfl ?_
  refine V.iload_n (pc := 53) C dX9_writes_53 3 rfl ?_
  refine V.iload_n (pc := 54) C dX9_writes_54 2 rfl ?_
  replace hf := ob_some hf
  obtain ⟨q3, h4, hf⟩ := hf
  refine V.callV0v (pc := 55) C hyX9_follows wd_1376 (mX9_follows (r := q3.1) (g' := q3.2) K.2.1 E (kS K) h4) rfl rfl rfl (oX9_follows h4) ⟨Nat.le_of_ble_eq_true rfl, Nat.le_of_ble_eq_true rfl⟩ (Nat.le_of_ble_eq_true rfl) dX9_writes_55 ⟨Nat.zero_le _, Nat.zero_le _⟩ rfl ?_
  refine V.aload_n (pc := 58) C dX9_writes_58 0 rfl ?_
  replace hf := ob_some hf
  obtain ⟨q5, h6, hf⟩ := hf
  refine V.callV0v (pc := 59) C hyX9_settles wd_1329 (mX9_settles (r := q5.1) (g' := q5.2) K.2.1 E (kS K) h6) rfl rfl rfl (oX9_settles h6) ⟨Nat.le_of_ble_eq_true rfl, Nat.le_of_ble_eq_true rfl⟩ (Nat.le_of_ble_eq_true rfl) dX9_writes_59 ⟨Nat.zero_le _, Nat.zero_le _⟩ rfl ?_
  obtain ⟨f1, f2⟩ := fin2 hf
  clear hf
  subst f1
  subst f2
  exact V.vret (pc := 62) C rfl dX9_writes_62
def fX9_writes_28  (g : PH) (v0 : Nat) (v1 : Int32) (v2 : Int32) (v3 : Int32) (s0 : Int32) : Option (Unit × PH) :=
  if s0 < 0 then (fX9_writes_48 g v0 v1 v2 v3 v2 v1 v0) else
  ((fX9_toldBy g v0 s0 (3 : Int32)).bind fun q2 =>
  (fX9_writes_48 q2.2 v0 v1 v2 v3 q2.1 v1 v0))
set_option maxHeartbeats 4000000 in
set_option maxRecDepth 100000 in
theorem bX9_writes_28 {K : HK} {E : HE} {r : Unit} {g' : PH}  (C : VC K E 5 cX9_writes RX9 none)  {g : PH} {v0 : Nat} {v1 : Int32} {v2 : Int32} {v3 : Int32} {s0 : Int32} (hf : fX9_writes_28  g v0 v1 v2 v3 s0 = some (r, g')) : V K E (hRm 3 72 0 0) 5 (hZ K E none g' 0 0) 0 0 (kS K) g 28 [(0, .ref v0), (1, .int v1), (2, .int v2), (3, .int v3)] [.int s0] := by
  unfold fX9_writes_28 at hf
  refine V.istore (pc := 28) (L' := [(4, .int s0), (0, .ref v0), (1, .int v1), (2, .int v2), (3, .int v3)]) C dX9_writes_28 (by decide) rfl ?_
  refine V.aload_n (pc := 30) C dX9_writes_30 1 rfl ?_
  refine V.iload_n (pc := 31) C dX9_writes_31 2 rfl ?_
  refine V.iload (pc := 32) C dX9_writes_32 0 rfl ?_
  refine V.if_lt (pc := 34) (t := 47) C dX9_writes_34 (by decide) (fun c1 => ?_) (fun c1 => ?_)
  · replace hf := ite_t c1 hf
    refine V.iload_n (pc := 47) C dX9_writes_47 3 rfl ?_
    refine V.sub (L' := [(0, .ref v0), (1, .int v1), (2, .int v2), (3, .int v3)]) [1, 2, 3, 4] rfl ?_
    exact bX9_writes_48 C  hf
  replace hf := ite_f c1 hf
  refine V.aload_n (pc := 37) C dX9_writes_37 1 rfl ?_
  refine V.iload (pc := 38) C dX9_writes_38 0 rfl ?_
  refine V.iconst (pc := 40) C dX9_writes_40 (v := (3 : Int32)) (by decide) ?_
  replace hf := ob_some hf
  obtain ⟨q2, h3, hf⟩ := hf
  refine V.callV0i (pc := 41) C hyX9_toldBy wd_1337 (mX9_toldBy (r := q2.1) (g' := q2.2) K.2.1 E (kS K) h3) rfl rfl rfl (oX9_toldBy h3) ⟨Nat.le_of_ble_eq_true rfl, Nat.le_of_ble_eq_true rfl⟩ (Nat.le_of_ble_eq_true rfl) dX9_writes_41 ⟨Nat.zero_le _, Nat.zero_le _⟩ rfl ?_
  refine V.goto (pc := 44) (t := 48) C dX9_writes_44 (by decide) ?_
  refine V.sub (L' := [(0, .ref v0), (1, .int v1), (2, .int v2), (3, .int v3)]) [1, 2, 3, 4] rfl ?_
  exact bX9_writes_48 C  hf
def fX9_writes (g : PH) (a0 : Nat) (a1 : Int32) (a2 : Int32) : Option (Unit × PH) :=
  okb (isO g a0 9) ((fX9_bit g a0 a1).bind fun q1 =>
  ((getR q1.2 a0 9 16).bind fun p3 =>
  ((ldI q1.2 p3 0 (3 : Int32)).bind fun x5 =>
  (if a1 = x5 then ((fX9_ruleOf q1.2 a0 (118 : Int32) q1.1 a2).bind fun q8 =>
  (fX9_writes_28 q8.2 a0 a1 a2 q1.1 q8.1)) else
  (fX9_writes_28 q1.2 a0 a1 a2 q1.1 (-1 : Int32))))))
theorem oX9_writes {g : PH} {a0 : Nat} {a1 : Int32} {a2 : Int32} {q : (Unit × PH)} (h : fX9_writes g a0 a1 a2 = some q) : isO g a0 9 = true := by unfold fX9_writes at h; exact (okb_some h).1
theorem hyX9_writes : hMet yX9_writes RX9 cX9_writes 5 none 2 := ⟨wd_1387, wd_1386, ws_91, wd_7, rfl, by decide +kernel, by decide +kernel, by decide +kernel⟩
set_option maxHeartbeats 4000000 in
set_option maxRecDepth 100000 in
theorem mX9_writes (l : Launch) (E : HE) (sz : Nat) {g g' : PH} {a0 : Nat} {a1 : Int32} {a2 : Int32} {r : Unit} (hf : fX9_writes g a0 a1 a2 = some (r, g')) : hM l E yX9_writes cX9_writes 5 none 3 72 0 0 sz g [.ref a0, .int a1, .int a2] none g' := by
  refine hM.of (by decide) (Nat.le_of_ble_eq_true rfl) (fun K hl C hin hsz => ?_)
  subst hl
  subst hsz
  have C : VC K E 5 cX9_writes RX9 none := C
  unfold fX9_writes at hf
  replace hf := okb_some hf
  obtain ⟨ho, hf⟩ := hf
  refine V.start (L' := [(0, .ref a0), (1, .int a1), (2, .int a2)]) rfl ?_
  refine V.aload_n (pc := 0) C dX9_writes_0 0 rfl ?_
  refine V.iload_n (pc := 1) C dX9_writes_1 1 rfl ?_
  replace hf := ob_some hf
  obtain ⟨q1, h2, hf⟩ := hf
  refine V.callV0i (pc := 2) C hyX9_bit wd_1348 (mX9_bit (r := q1.1) (g' := q1.2) K.2.1 E (kS K) h2) rfl rfl rfl (oX9_bit h2) ⟨Nat.le_of_ble_eq_true rfl, Nat.le_of_ble_eq_true rfl⟩ (Nat.le_of_ble_eq_true rfl) dX9_writes_2 ⟨Nat.zero_le _, Nat.zero_le _⟩ rfl ?_
  refine V.istore_n (pc := 5) (L' := [(3, .int q1.1), (0, .ref a0), (1, .int a1), (2, .int a2)]) C dX9_writes_5 (by decide) rfl ?_
  refine V.iload_n (pc := 6) C dX9_writes_6 2 rfl ?_
  refine V.aload_n (pc := 7) C dX9_writes_7 1 rfl ?_
  replace hf := ob_some hf
  obtain ⟨p3, h4, hf⟩ := hf
  refine V.getR (pc := 8) C kX9 (k := 16) (by decide) wd_1066 h4 dX9_writes_8 ?_
  refine V.iconst (pc := 11) C dX9_writes_11 (v := (3 : Int32)) (by decide) ?_
  replace hf := ob_some hf
  obtain ⟨x5, h6, hf⟩ := hf
  refine V.iald (pc := 12) C h6 dX9_writes_12 ?_
  refine V.icmp_ne (pc := 13) (t := 27) C dX9_writes_13 (by decide) (fun c7 => ?_) (fun c7 => ?_)
  · replace hf := ite_f c7 hf
    refine V.iconst (pc := 27) C dX9_writes_27 (v := (-1 : Int32)) (by decide) ?_
    refine V.sub (L' := [(0, .ref a0), (1, .int a1), (2, .int a2), (3, .int q1.1)]) [1, 2, 3, 0] rfl ?_
    exact bX9_writes_28 C  hf
  replace hf := ite_t c7 hf
  refine V.aload_n (pc := 16) C dX9_writes_16 1 rfl ?_
  refine V.bipush (pc := 17) C dX9_writes_17 (v := (118 : Int32)) (by decide) ?_
  refine V.iload_n (pc := 19) C dX9_writes_19 0 rfl ?_
  refine V.iload_n (pc := 20) C dX9_writes_20 3 rfl ?_
  replace hf := ob_some hf
  obtain ⟨q8, h9, hf⟩ := hf
  refine V.callV0i (pc := 21) C hyX9_ruleOf wd_1333 (mX9_ruleOf (r := q8.1) (g' := q8.2) K.2.1 E (kS K) h9) rfl rfl rfl (oX9_ruleOf h9) ⟨Nat.le_of_ble_eq_true rfl, Nat.le_of_ble_eq_true rfl⟩ (Nat.le_of_ble_eq_true rfl) dX9_writes_21 ⟨Nat.zero_le _, Nat.zero_le _⟩ rfl ?_
  refine V.goto (pc := 24) (t := 28) C dX9_writes_24 (by decide) ?_
  refine V.sub (L' := [(0, .ref a0), (1, .int a1), (2, .int a2), (3, .int q1.1)]) [1, 2, 3, 0] rfl ?_
  exact bX9_writes_28 C  hf
theorem dX9_reads_0 : decode cX9_reads 0 = .ok (.aload_n 0, 1) := by decide +kernel
theorem dX9_reads_1 : decode cX9_reads 1 = .ok (.iload_n 1, 1) := by decide +kernel
theorem dX9_reads_2 : decode cX9_reads 2 = .ok (.invokevirtual 200, 3) := by decide +kernel
theorem dX9_reads_5 : decode cX9_reads 5 = .ok (.istore_n 2, 1) := by decide +kernel
theorem dX9_reads_6 : decode cX9_reads 6 = .ok (.iload_n 2, 1) := by decide +kernel
theorem dX9_reads_7 : decode cX9_reads 7 = .ok (.istore_n 3, 1) := by decide +kernel
theorem dX9_reads_8 : decode cX9_reads 8 = .ok (.iload_n 1, 1) := by decide +kernel
theorem dX9_reads_9 : decode cX9_reads 9 = .ok (.aload_n 0, 1) := by decide +kernel
theorem dX9_reads_10 : decode cX9_reads 10 = .ok (.getfield 32, 3) := by decide +kernel
theorem dX9_reads_13 : decode cX9_reads 13 = .ok (.iconst 3, 1) := by decide +kernel
theorem dX9_reads_14 : decode cX9_reads 14 = .ok (.iaload, 1) := by decide +kernel
theorem dX9_reads_15 : decode cX9_reads 15 = .ok (.if_icmp .ne 14, 3) := by decide +kernel
theorem dX9_reads_18 : decode cX9_reads 18 = .ok (.aload_n 0, 1) := by decide +kernel
theorem dX9_reads_19 : decode cX9_reads 19 = .ok (.bipush 118, 2) := by decide +kernel
theorem dX9_reads_21 : decode cX9_reads 21 = .ok (.iload_n 2, 1) := by decide +kernel
theorem dX9_reads_22 : decode cX9_reads 22 = .ok (.iconst 2, 1) := by decide +kernel
theorem dX9_reads_23 : decode cX9_reads 23 = .ok (.invokevirtual 189, 3) := by decide +kernel
theorem dX9_reads_26 : decode cX9_reads 26 = .ok (.goto 4, 3) := by decide +kernel
theorem dX9_reads_29 : decode cX9_reads 29 = .ok (.iconst (-1), 1) := by decide +kernel
theorem dX9_reads_30 : decode cX9_reads 30 = .ok (.istore 4, 2) := by decide +kernel
theorem dX9_reads_32 : decode cX9_reads 32 = .ok (.iload 4, 2) := by decide +kernel
theorem dX9_reads_34 : decode cX9_reads 34 = .ok (.ifCond .lt 23, 3) := by decide +kernel
theorem dX9_reads_37 : decode cX9_reads 37 = .ok (.aload_n 0, 1) := by decide +kernel
theorem dX9_reads_38 : decode cX9_reads 38 = .ok (.iload_n 1, 1) := by decide +kernel
theorem dX9_reads_39 : decode cX9_reads 39 = .ok (.aload_n 0, 1) := by decide +kernel
theorem dX9_reads_40 : decode cX9_reads 40 = .ok (.iload 4, 2) := by decide +kernel
theorem dX9_reads_42 : decode cX9_reads 42 = .ok (.iconst 3, 1) := by decide +kernel
theorem dX9_reads_43 : decode cX9_reads 43 = .ok (.invokevirtual 192, 3) := by decide +kernel
theorem dX9_reads_46 : decode cX9_reads 46 = .ok (.invokevirtual 196, 3) := by decide +kernel
theorem dX9_reads_49 : decode cX9_reads 49 = .ok (.aload_n 0, 1) := by decide +kernel
theorem dX9_reads_50 : decode cX9_reads 50 = .ok (.iload 4, 2) := by decide +kernel
theorem dX9_reads_52 : decode cX9_reads 52 = .ok (.iconst 4, 1) := by decide +kernel
theorem dX9_reads_53 : decode cX9_reads 53 = .ok (.invokevirtual 192, 3) := by decide +kernel
theorem dX9_reads_56 : decode cX9_reads 56 = .ok (.istore_n 3, 1) := by decide +kernel
theorem dX9_reads_57 : decode cX9_reads 57 = .ok (.aload_n 0, 1) := by decide +kernel
theorem dX9_reads_58 : decode cX9_reads 58 = .ok (.iload_n 1, 1) := by decide +kernel
theorem dX9_reads_59 : decode cX9_reads 59 = .ok (.iload_n 2, 1) := by decide +kernel
theorem dX9_reads_60 : decode cX9_reads 60 = .ok (.iconst 2, 1) := by decide +kernel
theorem dX9_reads_61 : decode cX9_reads 61 = .ok (.invokevirtual 203, 3) := by decide +kernel
theorem dX9_reads_64 : decode cX9_reads 64 = .ok (.aload_n 0, 1) := by decide +kernel
theorem dX9_reads_65 : decode cX9_reads 65 = .ok (.invokevirtual 207, 3) := by decide +kernel
theorem dX9_reads_68 : decode cX9_reads 68 = .ok (.iload_n 3, 1) := by decide +kernel
theorem dX9_reads_69 : decode cX9_reads 69 = .ok (.ireturn, 1) := by decide +kernel
def fX9_reads_57  (g : PH) (v0 : Nat) (v1 : Int32) (v2 : Int32) (v3 : Int32) : Option (Int32 × PH) :=
  (fX9_follows g v0 v1 v2 (2 : Int32)).bind fun q1 =>
  ((fX9_settles q1.2 v0).bind fun q3 =>
  (some (v3, q3.2)))
set_option maxHeartbeats 4000000 in
set_option maxRecDepth 100000 in
theorem bX9_reads_57 {K : HK} {E : HE} {r : Int32} {g' : PH}  (C : VC K E 5 cX9_reads RX9 (some .int))  {g : PH} {v0 : Nat} {v1 : Int32} {v2 : Int32} {v3 : Int32} (hf : fX9_reads_57  g v0 v1 v2 v3 = some (r, g')) : V K E (hRm 3 72 0 0) 5 (hZ K E (some (.int r)) g' 0 0) 0 0 (kS K) g 57 [(0, .ref v0), (1, .int v1), (2, .int v2), (3, .int v3)] [] := by
  unfold fX9_reads_57 at hf
  refine V.aload_n (pc := 57) C dX9_reads_57 0 rfl ?_
  refine V.iload_n (pc := 58) C dX9_reads_58 1 rfl ?_
  refine V.iload_n (pc := 59) C dX9_reads_59 2 rfl ?_
  refine V.iconst (pc := 60) C dX9_reads_60 (v := (2 : Int32)) (by decide) ?_
  replace hf := ob_some hf
  obtain ⟨q1, h2, hf⟩ := hf
  refine V.callV0v (pc := 61) C hyX9_follows wd_1376 (mX9_follows (r := q1.1) (g' := q1.2) K.2.1 E (kS K) h2) rfl rfl rfl (oX9_follows h2) ⟨Nat.le_of_ble_eq_true rfl, Nat.le_of_ble_eq_true rfl⟩ (Nat.le_of_ble_eq_true rfl) dX9_reads_61 ⟨Nat.zero_le _, Nat.zero_le _⟩ rfl ?_
  refine V.aload_n (pc := 64) C dX9_reads_64 0 rfl ?_
  replace hf := ob_some hf
  obtain ⟨q3, h4, hf⟩ := hf
  refine V.callV0v (pc := 65) C hyX9_settles wd_1329 (mX9_settles (r := q3.1) (g' := q3.2) K.2.1 E (kS K) h4) rfl rfl rfl (oX9_settles h4) ⟨Nat.le_of_ble_eq_true rfl, Nat.le_of_ble_eq_true rfl⟩ (Nat.le_of_ble_eq_true rfl) dX9_reads_65 ⟨Nat.zero_le _, Nat.zero_le _⟩ rfl ?_
  refine V.iload_n (pc := 68) C dX9_reads_68 3 rfl ?_
  obtain ⟨f1, f2⟩ := fin2 hf
  clear hf
  subst f1
  subst f2
  exact V.iret (pc := 69) C rfl dX9_reads_69
def fX9_reads_30  (g : PH) (v0 : Nat) (v1 : Int32) (v2 : Int32) (v3 : Int32) (s0 : Int32) : Option (Int32 × PH) :=
  if s0 < 0 then (fX9_reads_57 g v0 v1 v2 v3) else
  ((fX9_toldBy g v0 s0 (3 : Int32)).bind fun q2 =>
  ((fX9_sets q2.2 v0 v1 q2.1).bind fun q4 =>
  ((fX9_toldBy q4.2 v0 s0 (4 : Int32)).bind fun q6 =>
  (fX9_reads_57 q6.2 v0 v1 v2 q6.1))))
set_option maxHeartbeats 4000000 in
set_option maxRecDepth 100000 in
theorem bX9_reads_30 {K : HK} {E : HE} {r : Int32} {g' : PH}  (C : VC K E 5 cX9_reads RX9 (some .int))  {g : PH} {v0 : Nat} {v1 : Int32} {v2 : Int32} {v3 : Int32} {s0 : Int32} (hf : fX9_reads_30  g v0 v1 v2 v3 s0 = some (r, g')) : V K E (hRm 3 72 0 0) 5 (hZ K E (some (.int r)) g' 0 0) 0 0 (kS K) g 30 [(0, .ref v0), (1, .int v1), (2, .int v2), (3, .int v3)] [.int s0] := by
  unfold fX9_reads_30 at hf
  refine V.istore (pc := 30) (L' := [(4, .int s0), (0, .ref v0), (1, .int v1), (2, .int v2), (3, .int v3)]) C dX9_reads_30 (by decide) rfl ?_
  refine V.iload (pc := 32) C dX9_reads_32 0 rfl ?_
  refine V.if_lt (pc := 34) (t := 57) C dX9_reads_34 (by decide) (fun c1 => ?_) (fun c1 => ?_)
  · replace hf := ite_t c1 hf
    refine V.sub (L' := [(0, .ref v0), (1, .int v1), (2, .int v2), (3, .int v3)]) [1, 2, 3, 4] rfl ?_
    exact bX9_reads_57 C  hf
  replace hf := ite_f c1 hf
  refine V.aload_n (pc := 37) C dX9_reads_37 1 rfl ?_
  refine V.iload_n (pc := 38) C dX9_reads_38 2 rfl ?_
  refine V.aload_n (pc := 39) C dX9_reads_39 1 rfl ?_
  refine V.iload (pc := 40) C dX9_reads_40 0 rfl ?_
  refine V.iconst (pc := 42) C dX9_reads_42 (v := (3 : Int32)) (by decide) ?_
  replace hf := ob_some hf
  obtain ⟨q2, h3, hf⟩ := hf
  refine V.callV0i (pc := 43) C hyX9_toldBy wd_1337 (mX9_toldBy (r := q2.1) (g' := q2.2) K.2.1 E (kS K) h3) rfl rfl rfl (oX9_toldBy h3) ⟨Nat.le_of_ble_eq_true rfl, Nat.le_of_ble_eq_true rfl⟩ (Nat.le_of_ble_eq_true rfl) dX9_reads_43 ⟨Nat.zero_le _, Nat.zero_le _⟩ rfl ?_
  replace hf := ob_some hf
  obtain ⟨q4, h5, hf⟩ := hf
  refine V.callV0v (pc := 46) C hyX9_sets wd_1341 (mX9_sets (r := q4.1) (g' := q4.2) K.2.1 E (kS K) h5) rfl rfl rfl (oX9_sets h5) ⟨Nat.le_of_ble_eq_true rfl, Nat.le_of_ble_eq_true rfl⟩ (Nat.le_of_ble_eq_true rfl) dX9_reads_46 ⟨Nat.zero_le _, Nat.zero_le _⟩ rfl ?_
  refine V.aload_n (pc := 49) C dX9_reads_49 1 rfl ?_
  refine V.iload (pc := 50) C dX9_reads_50 0 rfl ?_
  refine V.iconst (pc := 52) C dX9_reads_52 (v := (4 : Int32)) (by decide) ?_
  replace hf := ob_some hf
  obtain ⟨q6, h7, hf⟩ := hf
  refine V.callV0i (pc := 53) C hyX9_toldBy wd_1337 (mX9_toldBy (r := q6.1) (g' := q6.2) K.2.1 E (kS K) h7) rfl rfl rfl (oX9_toldBy h7) ⟨Nat.le_of_ble_eq_true rfl, Nat.le_of_ble_eq_true rfl⟩ (Nat.le_of_ble_eq_true rfl) dX9_reads_53 ⟨Nat.zero_le _, Nat.zero_le _⟩ rfl ?_
  refine V.istore_n (pc := 56) (L' := [(3, .int q6.1), (4, .int s0), (0, .ref v0), (1, .int v1), (2, .int v2)]) C dX9_reads_56 (by decide) rfl ?_
  refine V.sub (L' := [(0, .ref v0), (1, .int v1), (2, .int v2), (3, .int q6.1)]) [2, 3, 4, 0] rfl ?_
  exact bX9_reads_57 C  hf
def fX9_reads (g : PH) (a0 : Nat) (a1 : Int32) : Option (Int32 × PH) :=
  okb (isO g a0 9) ((fX9_bit g a0 a1).bind fun q1 =>
  ((getR q1.2 a0 9 16).bind fun p3 =>
  ((ldI q1.2 p3 0 (3 : Int32)).bind fun x5 =>
  (if a1 = x5 then ((fX9_ruleOf q1.2 a0 (118 : Int32) q1.1 (2 : Int32)).bind fun q8 =>
  (fX9_reads_30 q8.2 a0 a1 q1.1 q1.1 q8.1)) else
  (fX9_reads_30 q1.2 a0 a1 q1.1 q1.1 (-1 : Int32))))))
theorem oX9_reads {g : PH} {a0 : Nat} {a1 : Int32} {q : (Int32 × PH)} (h : fX9_reads g a0 a1 = some q) : isO g a0 9 = true := by unfold fX9_reads at h; exact (okb_some h).1
theorem hyX9_reads : hMet yX9_reads RX9 cX9_reads 5 (some .int) 1 := ⟨wd_1375, wd_1374, ws_88, wd_7, rfl, by decide +kernel, by decide +kernel, by decide +kernel⟩
set_option maxHeartbeats 4000000 in
set_option maxRecDepth 100000 in
theorem mX9_reads (l : Launch) (E : HE) (sz : Nat) {g g' : PH} {a0 : Nat} {a1 : Int32} {r : Int32} (hf : fX9_reads g a0 a1 = some (r, g')) : hM l E yX9_reads cX9_reads 5 (some .int) 3 72 0 0 sz g [.ref a0, .int a1] (some (.int r)) g' := by
  refine hM.of (by decide) (Nat.le_of_ble_eq_true rfl) (fun K hl C hin hsz => ?_)
  subst hl
  subst hsz
  have C : VC K E 5 cX9_reads RX9 (some .int) := C
  unfold fX9_reads at hf
  replace hf := okb_some hf
  obtain ⟨ho, hf⟩ := hf
  refine V.start (L' := [(0, .ref a0), (1, .int a1)]) rfl ?_
  refine V.aload_n (pc := 0) C dX9_reads_0 0 rfl ?_
  refine V.iload_n (pc := 1) C dX9_reads_1 1 rfl ?_
  replace hf := ob_some hf
  obtain ⟨q1, h2, hf⟩ := hf
  refine V.callV0i (pc := 2) C hyX9_bit wd_1348 (mX9_bit (r := q1.1) (g' := q1.2) K.2.1 E (kS K) h2) rfl rfl rfl (oX9_bit h2) ⟨Nat.le_of_ble_eq_true rfl, Nat.le_of_ble_eq_true rfl⟩ (Nat.le_of_ble_eq_true rfl) dX9_reads_2 ⟨Nat.zero_le _, Nat.zero_le _⟩ rfl ?_
  refine V.istore_n (pc := 5) (L' := [(2, .int q1.1), (0, .ref a0), (1, .int a1)]) C dX9_reads_5 (by decide) rfl ?_
  refine V.iload_n (pc := 6) C dX9_reads_6 0 rfl ?_
  refine V.istore_n (pc := 7) (L' := [(3, .int q1.1), (2, .int q1.1), (0, .ref a0), (1, .int a1)]) C dX9_reads_7 (by decide) rfl ?_
  refine V.iload_n (pc := 8) C dX9_reads_8 3 rfl ?_
  refine V.aload_n (pc := 9) C dX9_reads_9 2 rfl ?_
  replace hf := ob_some hf
  obtain ⟨p3, h4, hf⟩ := hf
  refine V.getR (pc := 10) C kX9 (k := 16) (by decide) wd_1066 h4 dX9_reads_10 ?_
  refine V.iconst (pc := 13) C dX9_reads_13 (v := (3 : Int32)) (by decide) ?_
  replace hf := ob_some hf
  obtain ⟨x5, h6, hf⟩ := hf
  refine V.iald (pc := 14) C h6 dX9_reads_14 ?_
  refine V.icmp_ne (pc := 15) (t := 29) C dX9_reads_15 (by decide) (fun c7 => ?_) (fun c7 => ?_)
  · replace hf := ite_f c7 hf
    refine V.iconst (pc := 29) C dX9_reads_29 (v := (-1 : Int32)) (by decide) ?_
    refine V.sub (L' := [(0, .ref a0), (1, .int a1), (2, .int q1.1), (3, .int q1.1)]) [2, 3, 1, 0] rfl ?_
    exact bX9_reads_30 C  hf
  replace hf := ite_t c7 hf
  refine V.aload_n (pc := 18) C dX9_reads_18 2 rfl ?_
  refine V.bipush (pc := 19) C dX9_reads_19 (v := (118 : Int32)) (by decide) ?_
  refine V.iload_n (pc := 21) C dX9_reads_21 1 rfl ?_
  refine V.iconst (pc := 22) C dX9_reads_22 (v := (2 : Int32)) (by decide) ?_
  replace hf := ob_some hf
  obtain ⟨q8, h9, hf⟩ := hf
  refine V.callV0i (pc := 23) C hyX9_ruleOf wd_1333 (mX9_ruleOf (r := q8.1) (g' := q8.2) K.2.1 E (kS K) h9) rfl rfl rfl (oX9_ruleOf h9) ⟨Nat.le_of_ble_eq_true rfl, Nat.le_of_ble_eq_true rfl⟩ (Nat.le_of_ble_eq_true rfl) dX9_reads_23 ⟨Nat.zero_le _, Nat.zero_le _⟩ rfl ?_
  refine V.goto (pc := 26) (t := 30) C dX9_reads_26 (by decide) ?_
  refine V.sub (L' := [(0, .ref a0), (1, .int a1), (2, .int q1.1), (3, .int q1.1)]) [2, 3, 1, 0] rfl ?_
  exact bX9_reads_30 C  hf
theorem dX9_letterIn_0 : decode cX9_letterIn 0 = .ok (.aload_n 0, 1) := by decide +kernel
theorem dX9_letterIn_1 : decode cX9_letterIn 1 = .ok (.getfield 32, 3) := by decide +kernel
theorem dX9_letterIn_4 : decode cX9_letterIn 4 = .ok (.iconst 1, 1) := by decide +kernel
theorem dX9_letterIn_5 : decode cX9_letterIn 5 = .ok (.iaload, 1) := by decide +kernel
theorem dX9_letterIn_6 : decode cX9_letterIn 6 = .ok (.ifCond .ge 7, 3) := by decide +kernel
theorem dX9_letterIn_9 : decode cX9_letterIn 9 = .ok (.iconst 0, 1) := by decide +kernel
theorem dX9_letterIn_10 : decode cX9_letterIn 10 = .ok (.goto 15, 3) := by decide +kernel
theorem dX9_letterIn_13 : decode cX9_letterIn 13 = .ok (.aload_n 0, 1) := by decide +kernel
theorem dX9_letterIn_14 : decode cX9_letterIn 14 = .ok (.aload_n 0, 1) := by decide +kernel
theorem dX9_letterIn_15 : decode cX9_letterIn 15 = .ok (.getfield 32, 3) := by decide +kernel
theorem dX9_letterIn_18 : decode cX9_letterIn 18 = .ok (.iconst 1, 1) := by decide +kernel
theorem dX9_letterIn_19 : decode cX9_letterIn 19 = .ok (.iaload, 1) := by decide +kernel
theorem dX9_letterIn_20 : decode cX9_letterIn 20 = .ok (.iconst 0, 1) := by decide +kernel
theorem dX9_letterIn_21 : decode cX9_letterIn 21 = .ok (.iconst 0, 1) := by decide +kernel
theorem dX9_letterIn_22 : decode cX9_letterIn 22 = .ok (.invokevirtual 138, 3) := by decide +kernel
theorem dX9_letterIn_25 : decode cX9_letterIn 25 = .ok (.ireturn, 1) := by decide +kernel
def fX9_letterIn (g : PH) (a0 : Nat) : Option (Int32 × PH) :=
  okb (isO g a0 9) ((getR g a0 9 16).bind fun p1 =>
  ((ldI g p1 0 (1 : Int32)).bind fun x3 =>
  (if 0 ≤ x3 then ((getR g a0 9 16).bind fun p6 =>
  ((ldI g p6 0 (1 : Int32)).bind fun x8 =>
  ((fX9_ruleAt g a0 x8 (0 : Int32) (0 : Int32)).bind fun q10 =>
  (some (q10.1, q10.2))))) else
  (some ((0 : Int32), g)))))
theorem oX9_letterIn {g : PH} {a0 : Nat} {q : (Int32 × PH)} (h : fX9_letterIn g a0 = some q) : isO g a0 9 = true := by unfold fX9_letterIn at h; exact (okb_some h).1
theorem hyX9_letterIn : hMet yX9_letterIn RX9 cX9_letterIn 1 (some .int) 0 := ⟨wd_1371, wd_1370, ws_87, wd_7, rfl, by decide +kernel, by decide +kernel, by decide +kernel⟩
set_option maxHeartbeats 4000000 in
set_option maxRecDepth 100000 in
theorem mX9_letterIn (l : Launch) (E : HE) (sz : Nat) {g g' : PH} {a0 : Nat} {r : Int32} (hf : fX9_letterIn g a0 = some (r, g')) : hM l E yX9_letterIn cX9_letterIn 1 (some .int) 1 23 0 0 sz g [.ref a0] (some (.int r)) g' := by
  refine hM.of (by decide) (Nat.le_of_ble_eq_true rfl) (fun K hl C hin hsz => ?_)
  subst hl
  subst hsz
  have C : VC K E 1 cX9_letterIn RX9 (some .int) := C
  unfold fX9_letterIn at hf
  replace hf := okb_some hf
  obtain ⟨ho, hf⟩ := hf
  refine V.start (L' := [(0, .ref a0)]) rfl ?_
  refine V.aload_n (pc := 0) C dX9_letterIn_0 0 rfl ?_
  replace hf := ob_some hf
  obtain ⟨p1, h2, hf⟩ := hf
  refine V.getR (pc := 1) C kX9 (k := 16) (by decide) wd_1066 h2 dX9_letterIn_1 ?_
  refine V.iconst (pc := 4) C dX9_letterIn_4 (v := (1 : Int32)) (by decide) ?_
  replace hf := ob_some hf
  obtain ⟨x3, h4, hf⟩ := hf
  refine V.iald (pc := 5) C h4 dX9_letterIn_5 ?_
  refine V.if_ge (pc := 6) (t := 13) C dX9_letterIn_6 (by decide) (fun c5 => ?_) (fun c5 => ?_)
  · replace hf := ite_t c5 hf
    refine V.aload_n (pc := 13) C dX9_letterIn_13 0 rfl ?_
    refine V.aload_n (pc := 14) C dX9_letterIn_14 0 rfl ?_
    replace hf := ob_some hf
    obtain ⟨p6, h7, hf⟩ := hf
    refine V.getR (pc := 15) C kX9 (k := 16) (by decide) wd_1066 h7 dX9_letterIn_15 ?_
    refine V.iconst (pc := 18) C dX9_letterIn_18 (v := (1 : Int32)) (by decide) ?_
    replace hf := ob_some hf
    obtain ⟨x8, h9, hf⟩ := hf
    refine V.iald (pc := 19) C h9 dX9_letterIn_19 ?_
    refine V.iconst (pc := 20) C dX9_letterIn_20 (v := (0 : Int32)) (by decide) ?_
    refine V.iconst (pc := 21) C dX9_letterIn_21 (v := (0 : Int32)) (by decide) ?_
    replace hf := ob_some hf
    obtain ⟨q10, h11, hf⟩ := hf
    refine V.callV0i (pc := 22) C hyX9_ruleAt wd_1212 (mX9_ruleAt (r := q10.1) (g' := q10.2) K.2.1 E (kS K) h11) rfl rfl rfl (oX9_ruleAt h11) ⟨Nat.le_of_ble_eq_true rfl, Nat.le_of_ble_eq_true rfl⟩ (Nat.le_of_ble_eq_true rfl) dX9_letterIn_22 ⟨Nat.zero_le _, Nat.zero_le _⟩ rfl ?_
    obtain ⟨f1, f2⟩ := fin2 hf
    clear hf
    subst f1
    subst f2
    exact V.iret (pc := 25) C rfl dX9_letterIn_25
  replace hf := ite_f c5 hf
  refine V.iconst (pc := 9) C dX9_letterIn_9 (v := (0 : Int32)) (by decide) ?_
  refine V.goto (pc := 10) (t := 25) C dX9_letterIn_10 (by decide) ?_
  obtain ⟨f1, f2⟩ := fin2 hf
  clear hf
  subst f1
  subst f2
  exact V.iret (pc := 25) C rfl dX9_letterIn_25
