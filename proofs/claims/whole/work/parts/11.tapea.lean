theorem dX6_rewind_0 : decode cX6_rewind 0 = .ok (.aload_n 0, 1) := by decide +kernel
theorem dX6_rewind_1 : decode cX6_rewind 1 = .ok (.iconst 0, 1) := by decide +kernel
theorem dX6_rewind_2 : decode cX6_rewind 2 = .ok (.putfield 19, 3) := by decide +kernel
theorem dX6_rewind_5 : decode cX6_rewind 5 = .ok (.aload_n 0, 1) := by decide +kernel
theorem dX6_rewind_6 : decode cX6_rewind 6 = .ok (.iconst 0, 1) := by decide +kernel
theorem dX6_rewind_7 : decode cX6_rewind 7 = .ok (.putfield 22, 3) := by decide +kernel
theorem dX6_rewind_10 : decode cX6_rewind 10 = .ok (.return_, 1) := by decide +kernel
def fX6_rewind (g : PH) (a0 : Nat) : Option (Unit × PH) :=
  okb (isO g a0 6) ((putV g a0 6 2 (.int (0 : Int32))).bind fun g1 =>
  ((putV g1 a0 6 3 (.int (0 : Int32))).bind fun g3 =>
  (some ((), g3))))
theorem oX6_rewind {g : PH} {a0 : Nat} {q : (Unit × PH)} (h : fX6_rewind g a0 = some q) : isO g a0 6 = true := by unfold fX6_rewind at h; exact (okb_some h).1
theorem hyX6_rewind : hMet yX6_rewind RX6 cX6_rewind 1 none 0 := ⟨wd_283, wd_281, wd_282, wd_2, rfl, by decide +kernel, by decide +kernel, by decide +kernel⟩
set_option maxHeartbeats 4000000 in
set_option maxRecDepth 100000 in
theorem mX6_rewind (l : Launch) (E : HE) (sz : Nat) {g g' : PH} {a0 : Nat} {r : Unit} (hf : fX6_rewind g a0 = some (r, g')) : hM l E yX6_rewind cX6_rewind 1 none 0 0 0 0 sz g [.ref a0] none g' := by
  refine hM.of (by decide) (Nat.le_of_ble_eq_true rfl) (fun K hl C hin hsz => ?_)
  subst hl
  subst hsz
  have C : VC K E 1 cX6_rewind RX6 none := C
  unfold fX6_rewind at hf
  replace hf := okb_some hf
  obtain ⟨ho, hf⟩ := hf
  refine V.start (L' := [(0, .ref a0)]) rfl ?_
  refine V.aload_n (pc := 0) C dX6_rewind_0 0 rfl ?_
  refine V.iconst (pc := 1) C dX6_rewind_1 (v := (0 : Int32)) (by decide) ?_
  replace hf := ob_some hf
  obtain ⟨g1, h2, hf⟩ := hf
  refine V.putX (pc := 2) C kX6 (k := 2) (by decide) wd_36 rfl rfl rfl h2 dX6_rewind_2 ?_
  refine V.aload_n (pc := 5) C dX6_rewind_5 0 rfl ?_
  refine V.iconst (pc := 6) C dX6_rewind_6 (v := (0 : Int32)) (by decide) ?_
  replace hf := ob_some hf
  obtain ⟨g3, h4, hf⟩ := hf
  refine V.putX (pc := 7) C kX6 (k := 3) (by decide) wd_37 rfl rfl rfl h4 dX6_rewind_7 ?_
  obtain ⟨f1, f2⟩ := fin2 hf
  clear hf
  subst f1
  subst f2
  exact V.vret (pc := 10) C rfl dX6_rewind_10
theorem dX6_byteAt_0 : decode cX6_byteAt 0 = .ok (.iload_n 1, 1) := by decide +kernel
theorem dX6_byteAt_1 : decode cX6_byteAt 1 = .ok (.ifCond .lt 31, 3) := by decide +kernel
theorem dX6_byteAt_4 : decode cX6_byteAt 4 = .ok (.iload_n 1, 1) := by decide +kernel
theorem dX6_byteAt_5 : decode cX6_byteAt 5 = .ok (.aload_n 0, 1) := by decide +kernel
theorem dX6_byteAt_6 : decode cX6_byteAt 6 = .ok (.getfield 15, 3) := by decide +kernel
theorem dX6_byteAt_9 : decode cX6_byteAt 9 = .ok (.if_icmp .ge 23, 3) := by decide +kernel
theorem dX6_byteAt_12 : decode cX6_byteAt 12 = .ok (.iload_n 1, 1) := by decide +kernel
theorem dX6_byteAt_13 : decode cX6_byteAt 13 = .ok (.sipush 200, 3) := by decide +kernel
theorem dX6_byteAt_16 : decode cX6_byteAt 16 = .ok (.if_icmp .ge 16, 3) := by decide +kernel
theorem dX6_byteAt_19 : decode cX6_byteAt 19 = .ok (.aload_n 0, 1) := by decide +kernel
theorem dX6_byteAt_20 : decode cX6_byteAt 20 = .ok (.getfield 11, 3) := by decide +kernel
theorem dX6_byteAt_23 : decode cX6_byteAt 23 = .ok (.iload_n 1, 1) := by decide +kernel
theorem dX6_byteAt_24 : decode cX6_byteAt 24 = .ok (.baload, 1) := by decide +kernel
theorem dX6_byteAt_25 : decode cX6_byteAt 25 = .ok (.sipush 255, 3) := by decide +kernel
theorem dX6_byteAt_28 : decode cX6_byteAt 28 = .ok (.iand, 1) := by decide +kernel
theorem dX6_byteAt_29 : decode cX6_byteAt 29 = .ok (.goto 4, 3) := by decide +kernel
theorem dX6_byteAt_32 : decode cX6_byteAt 32 = .ok (.iconst (-1), 1) := by decide +kernel
theorem dX6_byteAt_33 : decode cX6_byteAt 33 = .ok (.ireturn, 1) := by decide +kernel
def fX6_byteAt (g : PH) (a0 : Nat) (a1 : Int32) : Option (Int32 × PH) :=
  okb (isO g a0 6) (if a1 < 0 then (some ((-1 : Int32), g)) else
  ((getI g a0 6 1).bind fun x2 =>
  (if x2 ≤ a1 then (some ((-1 : Int32), g)) else
  (if (200 : Int32) ≤ a1 then (some ((-1 : Int32), g)) else
  ((getR g a0 6 0).bind fun p6 =>
  ((ldI g p6 1 a1).bind fun x8 =>
  (some ((x8 &&& (255 : Int32)), g))))))))
theorem oX6_byteAt {g : PH} {a0 : Nat} {a1 : Int32} {q : (Int32 × PH)} (h : fX6_byteAt g a0 a1 = some q) : isO g a0 6 = true := by unfold fX6_byteAt at h; exact (okb_some h).1
theorem hyX6_byteAt : hMet yX6_byteAt RX6 cX6_byteAt 2 (some .int) 1 := ⟨wd_295, wd_293, wd_294, wd_2, rfl, by decide +kernel, by decide +kernel, by decide +kernel⟩
set_option maxHeartbeats 4000000 in
set_option maxRecDepth 100000 in
theorem mX6_byteAt (l : Launch) (E : HE) (sz : Nat) {g g' : PH} {a0 : Nat} {a1 : Int32} {r : Int32} (hf : fX6_byteAt g a0 a1 = some (r, g')) : hM l E yX6_byteAt cX6_byteAt 2 (some .int) 0 0 0 0 sz g [.ref a0, .int a1] (some (.int r)) g' := by
  refine hM.of (by decide) (Nat.le_of_ble_eq_true rfl) (fun K hl C hin hsz => ?_)
  subst hl
  subst hsz
  have C : VC K E 2 cX6_byteAt RX6 (some .int) := C
  unfold fX6_byteAt at hf
  replace hf := okb_some hf
  obtain ⟨ho, hf⟩ := hf
  refine V.start (L' := [(0, .ref a0), (1, .int a1)]) rfl ?_
  refine V.iload_n (pc := 0) C dX6_byteAt_0 1 rfl ?_
  refine V.if_lt (pc := 1) (t := 32) C dX6_byteAt_1 (by decide) (fun c1 => ?_) (fun c1 => ?_)
  · replace hf := ite_t c1 hf
    refine V.iconst (pc := 32) C dX6_byteAt_32 (v := (-1 : Int32)) (by decide) ?_
    obtain ⟨f1, f2⟩ := fin2 hf
    clear hf
    subst f1
    subst f2
    exact V.iret (pc := 33) C rfl dX6_byteAt_33
  replace hf := ite_f c1 hf
  refine V.iload_n (pc := 4) C dX6_byteAt_4 1 rfl ?_
  refine V.aload_n (pc := 5) C dX6_byteAt_5 0 rfl ?_
  replace hf := ob_some hf
  obtain ⟨x2, h3, hf⟩ := hf
  refine V.getI (pc := 6) C kX6 (k := 1) (by decide) wd_34 h3 dX6_byteAt_6 ?_
  refine V.icmp_ge (pc := 9) (t := 32) C dX6_byteAt_9 (by decide) (fun c4 => ?_) (fun c4 => ?_)
  · replace hf := ite_t c4 hf
    refine V.iconst (pc := 32) C dX6_byteAt_32 (v := (-1 : Int32)) (by decide) ?_
    obtain ⟨f1, f2⟩ := fin2 hf
    clear hf
    subst f1
    subst f2
    exact V.iret (pc := 33) C rfl dX6_byteAt_33
  replace hf := ite_f c4 hf
  refine V.iload_n (pc := 12) C dX6_byteAt_12 1 rfl ?_
  refine V.sipush (pc := 13) C dX6_byteAt_13 (v := (200 : Int32)) (by decide) ?_
  refine V.icmp_ge (pc := 16) (t := 32) C dX6_byteAt_16 (by decide) (fun c5 => ?_) (fun c5 => ?_)
  · replace hf := ite_t c5 hf
    refine V.iconst (pc := 32) C dX6_byteAt_32 (v := (-1 : Int32)) (by decide) ?_
    obtain ⟨f1, f2⟩ := fin2 hf
    clear hf
    subst f1
    subst f2
    exact V.iret (pc := 33) C rfl dX6_byteAt_33
  replace hf := ite_f c5 hf
  refine V.aload_n (pc := 19) C dX6_byteAt_19 0 rfl ?_
  replace hf := ob_some hf
  obtain ⟨p6, h7, hf⟩ := hf
  refine V.getR (pc := 20) C kX6 (k := 0) (by decide) wd_33 h7 dX6_byteAt_20 ?_
  refine V.iload_n (pc := 23) C dX6_byteAt_23 1 rfl ?_
  replace hf := ob_some hf
  obtain ⟨x8, h9, hf⟩ := hf
  refine V.bald (pc := 24) C h9 dX6_byteAt_24 ?_
  refine V.sipush (pc := 25) C dX6_byteAt_25 (v := (255 : Int32)) (by decide) ?_
  refine V.iand (pc := 28) C dX6_byteAt_28 ?_
  refine V.goto (pc := 29) (t := 33) C dX6_byteAt_29 (by decide) ?_
  obtain ⟨f1, f2⟩ := fin2 hf
  clear hf
  subst f1
  subst f2
  exact V.iret (pc := 33) C rfl dX6_byteAt_33
theorem dX6_nextPlace_0 : decode cX6_nextPlace 0 = .ok (.aload_n 0, 1) := by decide +kernel
theorem dX6_nextPlace_1 : decode cX6_nextPlace 1 = .ok (.getfield 19, 3) := by decide +kernel
theorem dX6_nextPlace_4 : decode cX6_nextPlace 4 = .ok (.aload_n 0, 1) := by decide +kernel
theorem dX6_nextPlace_5 : decode cX6_nextPlace 5 = .ok (.getfield 15, 3) := by decide +kernel
theorem dX6_nextPlace_8 : decode cX6_nextPlace 8 = .ok (.if_icmp .ge 29, 3) := by decide +kernel
theorem dX6_nextPlace_11 : decode cX6_nextPlace 11 = .ok (.aload_n 0, 1) := by decide +kernel
theorem dX6_nextPlace_12 : decode cX6_nextPlace 12 = .ok (.aload_n 0, 1) := by decide +kernel
theorem dX6_nextPlace_13 : decode cX6_nextPlace 13 = .ok (.getfield 19, 3) := by decide +kernel
theorem dX6_nextPlace_16 : decode cX6_nextPlace 16 = .ok (.invokevirtual 25, 3) := by decide +kernel
theorem dX6_nextPlace_19 : decode cX6_nextPlace 19 = .ok (.bipush 32, 2) := by decide +kernel
theorem dX6_nextPlace_21 : decode cX6_nextPlace 21 = .ok (.if_icmp .ne 16, 3) := by decide +kernel
theorem dX6_nextPlace_24 : decode cX6_nextPlace 24 = .ok (.aload_n 0, 1) := by decide +kernel
theorem dX6_nextPlace_25 : decode cX6_nextPlace 25 = .ok (.dup, 1) := by decide +kernel
theorem dX6_nextPlace_26 : decode cX6_nextPlace 26 = .ok (.getfield 19, 3) := by decide +kernel
theorem dX6_nextPlace_29 : decode cX6_nextPlace 29 = .ok (.iconst 1, 1) := by decide +kernel
theorem dX6_nextPlace_30 : decode cX6_nextPlace 30 = .ok (.iadd, 1) := by decide +kernel
theorem dX6_nextPlace_31 : decode cX6_nextPlace 31 = .ok (.putfield 19, 3) := by decide +kernel
theorem dX6_nextPlace_34 : decode cX6_nextPlace 34 = .ok (.goto (-34), 3) := by decide +kernel
theorem dX6_nextPlace_37 : decode cX6_nextPlace 37 = .ok (.aload_n 0, 1) := by decide +kernel
theorem dX6_nextPlace_38 : decode cX6_nextPlace 38 = .ok (.getfield 19, 3) := by decide +kernel
theorem dX6_nextPlace_41 : decode cX6_nextPlace 41 = .ok (.ireturn, 1) := by decide +kernel
def fX6_nextPlace_0  : Nat → PH → Nat → Option (Int32 × PH)
  | 0, _, _ => none
  | n + 1, g, v0 =>
  (getI g v0 6 2).bind fun x1 =>
  ((getI g v0 6 1).bind fun x3 =>
  (if x3 ≤ x1 then ((getI g v0 6 2).bind fun x6 =>
  (some (x6, g))) else
  ((getI g v0 6 2).bind fun x8 =>
  ((fX6_byteAt g v0 x8).bind fun q10 =>
  (if q10.1 = (32 : Int32) then ((getI q10.2 v0 6 2).bind fun x15 =>
  ((putV q10.2 v0 6 2 (.int (x15 + (1 : Int32)))).bind fun g17 =>
  (fX6_nextPlace_0 n g17 v0))) else
  ((getI q10.2 v0 6 2).bind fun x13 =>
  (some (x13, q10.2))))))))
set_option maxHeartbeats 4000000 in
set_option maxRecDepth 100000 in
theorem bX6_nextPlace_0 {K : HK} {E : HE} {r : Int32} {g' : PH}  (C : VC K E 1 cX6_nextPlace RX6 (some .int))  : ∀ (n : Nat) (g : PH) (v0 : Nat), fX6_nextPlace_0  n g v0 = some (r, g') → V K E (hRm 1 21 0 0) 1 (hZ K E (some (.int r)) g' 0 0) 0 0 (kS K) g 0 [(0, .ref v0)] [] := by
  intro n
  induction n with
  | zero =>
    intro g v0 hf
    rw [fX6_nextPlace_0] at hf
    cases hf
  | succ n ih =>
    intro g v0 hf
    rw [fX6_nextPlace_0] at hf
    refine V.aload_n (pc := 0) C dX6_nextPlace_0 0 rfl ?_
    replace hf := ob_some hf
    obtain ⟨x1, h2, hf⟩ := hf
    refine V.getI (pc := 1) C kX6 (k := 2) (by decide) wd_36 h2 dX6_nextPlace_1 ?_
    refine V.aload_n (pc := 4) C dX6_nextPlace_4 0 rfl ?_
    replace hf := ob_some hf
    obtain ⟨x3, h4, hf⟩ := hf
    refine V.getI (pc := 5) C kX6 (k := 1) (by decide) wd_34 h4 dX6_nextPlace_5 ?_
    refine V.icmp_ge (pc := 8) (t := 37) C dX6_nextPlace_8 (by decide) (fun c5 => ?_) (fun c5 => ?_)
    · replace hf := ite_t c5 hf
      refine V.aload_n (pc := 37) C dX6_nextPlace_37 0 rfl ?_
      replace hf := ob_some hf
      obtain ⟨x6, h7, hf⟩ := hf
      refine V.getI (pc := 38) C kX6 (k := 2) (by decide) wd_36 h7 dX6_nextPlace_38 ?_
      obtain ⟨f1, f2⟩ := fin2 hf
      clear hf
      subst f1
      subst f2
      exact V.iret (pc := 41) C rfl dX6_nextPlace_41
    replace hf := ite_f c5 hf
    refine V.aload_n (pc := 11) C dX6_nextPlace_11 0 rfl ?_
    refine V.aload_n (pc := 12) C dX6_nextPlace_12 0 rfl ?_
    replace hf := ob_some hf
    obtain ⟨x8, h9, hf⟩ := hf
    refine V.getI (pc := 13) C kX6 (k := 2) (by decide) wd_36 h9 dX6_nextPlace_13 ?_
    replace hf := ob_some hf
    obtain ⟨q10, h11, hf⟩ := hf
    refine V.callV0i (pc := 16) C hyX6_byteAt wd_292 (mX6_byteAt (r := q10.1) (g' := q10.2) K.2.1 E (kS K) h11) rfl rfl rfl (oX6_byteAt h11) ⟨Nat.le_of_ble_eq_true rfl, Nat.le_of_ble_eq_true rfl⟩ (Nat.le_of_ble_eq_true rfl) dX6_nextPlace_16 ⟨Nat.zero_le _, Nat.zero_le _⟩ rfl ?_
    refine V.bipush (pc := 19) C dX6_nextPlace_19 (v := (32 : Int32)) (by decide) ?_
    refine V.icmp_ne (pc := 21) (t := 37) C dX6_nextPlace_21 (by decide) (fun c12 => ?_) (fun c12 => ?_)
    · replace hf := ite_f c12 hf
      refine V.aload_n (pc := 37) C dX6_nextPlace_37 0 rfl ?_
      replace hf := ob_some hf
      obtain ⟨x13, h14, hf⟩ := hf
      refine V.getI (pc := 38) C kX6 (k := 2) (by decide) wd_36 h14 dX6_nextPlace_38 ?_
      obtain ⟨f1, f2⟩ := fin2 hf
      clear hf
      subst f1
      subst f2
      exact V.iret (pc := 41) C rfl dX6_nextPlace_41
    replace hf := ite_t c12 hf
    refine V.aload_n (pc := 24) C dX6_nextPlace_24 0 rfl ?_
    refine V.dup (pc := 25) C dX6_nextPlace_25 rfl ?_
    replace hf := ob_some hf
    obtain ⟨x15, h16, hf⟩ := hf
    refine V.getI (pc := 26) C kX6 (k := 2) (by decide) wd_36 h16 dX6_nextPlace_26 ?_
    refine V.iconst (pc := 29) C dX6_nextPlace_29 (v := (1 : Int32)) (by decide) ?_
    refine V.iadd (pc := 30) C dX6_nextPlace_30 ?_
    replace hf := ob_some hf
    obtain ⟨g17, h18, hf⟩ := hf
    refine V.putX (pc := 31) C kX6 (k := 2) (by decide) wd_36 rfl rfl rfl h18 dX6_nextPlace_31 ?_
    refine V.goto (pc := 34) (t := 0) C dX6_nextPlace_34 (by decide) ?_
    refine V.sub (L' := [(0, .ref v0)]) [0] rfl ?_
    exact ih _ _ hf
def fX6_nextPlace (g : PH) (a0 : Nat) : Option (Int32 × PH) :=
  okb (isO g a0 6) (fX6_nextPlace_0 FUEL g a0)
theorem oX6_nextPlace {g : PH} {a0 : Nat} {q : (Int32 × PH)} (h : fX6_nextPlace g a0 = some q) : isO g a0 6 = true := by unfold fX6_nextPlace at h; exact (okb_some h).1
theorem hyX6_nextPlace : hMet yX6_nextPlace RX6 cX6_nextPlace 1 (some .int) 0 := ⟨wd_291, wd_289, wd_290, wd_2, rfl, by decide +kernel, by decide +kernel, by decide +kernel⟩
set_option maxHeartbeats 4000000 in
set_option maxRecDepth 100000 in
theorem mX6_nextPlace (l : Launch) (E : HE) (sz : Nat) {g g' : PH} {a0 : Nat} {r : Int32} (hf : fX6_nextPlace g a0 = some (r, g')) : hM l E yX6_nextPlace cX6_nextPlace 1 (some .int) 1 21 0 0 sz g [.ref a0] (some (.int r)) g' := by
  refine hM.of (by decide) (Nat.le_of_ble_eq_true rfl) (fun K hl C hin hsz => ?_)
  subst hl
  subst hsz
  have C : VC K E 1 cX6_nextPlace RX6 (some .int) := C
  unfold fX6_nextPlace at hf
  replace hf := okb_some hf
  obtain ⟨ho, hf⟩ := hf
  refine V.start (L' := [(0, .ref a0)]) rfl ?_
  refine V.sub (L' := [(0, .ref a0)]) [0] rfl ?_
  exact bX6_nextPlace_0 C  _ _ _ hf
theorem dX6_blame_0 : decode cX6_blame 0 = .ok (.aload_n 0, 1) := by decide +kernel
theorem dX6_blame_1 : decode cX6_blame 1 = .ok (.getfield 22, 3) := by decide +kernel
theorem dX6_blame_4 : decode cX6_blame 4 = .ok (.ifCond .ne 13, 3) := by decide +kernel
theorem dX6_blame_7 : decode cX6_blame 7 = .ok (.aload_n 0, 1) := by decide +kernel
theorem dX6_blame_8 : decode cX6_blame 8 = .ok (.bipush 8, 2) := by decide +kernel
theorem dX6_blame_10 : decode cX6_blame 10 = .ok (.iload_n 1, 1) := by decide +kernel
theorem dX6_blame_11 : decode cX6_blame 11 = .ok (.imul, 1) := by decide +kernel
theorem dX6_blame_12 : decode cX6_blame 12 = .ok (.iload_n 2, 1) := by decide +kernel
theorem dX6_blame_13 : decode cX6_blame 13 = .ok (.iadd, 1) := by decide +kernel
theorem dX6_blame_14 : decode cX6_blame 14 = .ok (.putfield 22, 3) := by decide +kernel
theorem dX6_blame_17 : decode cX6_blame 17 = .ok (.return_, 1) := by decide +kernel
def fX6_blame (g : PH) (a0 : Nat) (a1 : Int32) (a2 : Int32) : Option (Unit × PH) :=
  okb (isO g a0 6) ((getI g a0 6 3).bind fun x1 =>
  (if x1 = 0 then ((putV g a0 6 3 (.int (((8 : Int32) * a1) + a2))).bind fun g4 =>
  (some ((), g4))) else
  (some ((), g))))
theorem oX6_blame {g : PH} {a0 : Nat} {a1 : Int32} {a2 : Int32} {q : (Unit × PH)} (h : fX6_blame g a0 a1 a2 = some q) : isO g a0 6 = true := by unfold fX6_blame at h; exact (okb_some h).1
theorem hyX6_blame : hMet yX6_blame RX6 cX6_blame 3 none 2 := ⟨wd_387, wd_385, wd_386, wd_2, rfl, by decide +kernel, by decide +kernel, by decide +kernel⟩
set_option maxHeartbeats 4000000 in
set_option maxRecDepth 100000 in
theorem mX6_blame (l : Launch) (E : HE) (sz : Nat) {g g' : PH} {a0 : Nat} {a1 : Int32} {a2 : Int32} {r : Unit} (hf : fX6_blame g a0 a1 a2 = some (r, g')) : hM l E yX6_blame cX6_blame 3 none 0 0 0 0 sz g [.ref a0, .int a1, .int a2] none g' := by
  refine hM.of (by decide) (Nat.le_of_ble_eq_true rfl) (fun K hl C hin hsz => ?_)
  subst hl
  subst hsz
  have C : VC K E 3 cX6_blame RX6 none := C
  unfold fX6_blame at hf
  replace hf := okb_some hf
  obtain ⟨ho, hf⟩ := hf
  refine V.start (L' := [(0, .ref a0), (1, .int a1), (2, .int a2)]) rfl ?_
  refine V.aload_n (pc := 0) C dX6_blame_0 0 rfl ?_
  replace hf := ob_some hf
  obtain ⟨x1, h2, hf⟩ := hf
  refine V.getI (pc := 1) C kX6 (k := 3) (by decide) wd_37 h2 dX6_blame_1 ?_
  refine V.if_ne (pc := 4) (t := 17) C dX6_blame_4 (by decide) (fun c3 => ?_) (fun c3 => ?_)
  · replace hf := ite_f c3 hf
    obtain ⟨f1, f2⟩ := fin2 hf
    clear hf
    subst f1
    subst f2
    exact V.vret (pc := 17) C rfl dX6_blame_17
  replace hf := ite_t c3 hf
  refine V.aload_n (pc := 7) C dX6_blame_7 0 rfl ?_
  refine V.bipush (pc := 8) C dX6_blame_8 (v := (8 : Int32)) (by decide) ?_
  refine V.iload_n (pc := 10) C dX6_blame_10 1 rfl ?_
  refine V.imul (pc := 11) C dX6_blame_11 ?_
  refine V.iload_n (pc := 12) C dX6_blame_12 2 rfl ?_
  refine V.iadd (pc := 13) C dX6_blame_13 ?_
  replace hf := ob_some hf
  obtain ⟨g4, h5, hf⟩ := hf
  refine V.putX (pc := 14) C kX6 (k := 3) (by decide) wd_37 rfl rfl rfl h5 dX6_blame_14 ?_
  obtain ⟨f1, f2⟩ := fin2 hf
  clear hf
  subst f1
  subst f2
  exact V.vret (pc := 17) C rfl dX6_blame_17
theorem dX6_take_0 : decode cX6_take 0 = .ok (.aload_n 0, 1) := by decide +kernel
theorem dX6_take_1 : decode cX6_take 1 = .ok (.aload_n 0, 1) := by decide +kernel
theorem dX6_take_2 : decode cX6_take 2 = .ok (.invokevirtual 29, 3) := by decide +kernel
theorem dX6_take_5 : decode cX6_take 5 = .ok (.invokevirtual 25, 3) := by decide +kernel
theorem dX6_take_8 : decode cX6_take 8 = .ok (.istore_n 2, 1) := by decide +kernel
theorem dX6_take_9 : decode cX6_take 9 = .ok (.aload_n 0, 1) := by decide +kernel
theorem dX6_take_10 : decode cX6_take 10 = .ok (.getfield 22, 3) := by decide +kernel
theorem dX6_take_13 : decode cX6_take 13 = .ok (.ifCond .ne 17, 3) := by decide +kernel
theorem dX6_take_16 : decode cX6_take 16 = .ok (.iload_n 2, 1) := by decide +kernel
theorem dX6_take_17 : decode cX6_take 17 = .ok (.iconst (-1), 1) := by decide +kernel
theorem dX6_take_18 : decode cX6_take 18 = .ok (.if_icmp .eq 12, 3) := by decide +kernel
theorem dX6_take_21 : decode cX6_take 21 = .ok (.aload_n 1, 1) := by decide +kernel
theorem dX6_take_22 : decode cX6_take 22 = .ok (.iload_n 2, 1) := by decide +kernel
theorem dX6_take_23 : decode cX6_take 23 = .ok (.i2c, 1) := by decide +kernel
theorem dX6_take_24 : decode cX6_take 24 = .ok (.invokevirtual 33, 3) := by decide +kernel
theorem dX6_take_27 : decode cX6_take 27 = .ok (.goto 4, 3) := by decide +kernel
theorem dX6_take_30 : decode cX6_take 30 = .ok (.iconst (-1), 1) := by decide +kernel
theorem dX6_take_31 : decode cX6_take 31 = .ok (.istore_n 3, 1) := by decide +kernel
theorem dX6_take_32 : decode cX6_take 32 = .ok (.iload_n 3, 1) := by decide +kernel
theorem dX6_take_33 : decode cX6_take 33 = .ok (.ifCond .ge 14, 3) := by decide +kernel
theorem dX6_take_36 : decode cX6_take 36 = .ok (.aload_n 0, 1) := by decide +kernel
theorem dX6_take_37 : decode cX6_take 37 = .ok (.aload_n 0, 1) := by decide +kernel
theorem dX6_take_38 : decode cX6_take 38 = .ok (.getfield 19, 3) := by decide +kernel
theorem dX6_take_41 : decode cX6_take 41 = .ok (.iconst 1, 1) := by decide +kernel
theorem dX6_take_42 : decode cX6_take 42 = .ok (.invokevirtual 38, 3) := by decide +kernel
theorem dX6_take_45 : decode cX6_take 45 = .ok (.iconst (-1), 1) := by decide +kernel
theorem dX6_take_46 : decode cX6_take 46 = .ok (.ireturn, 1) := by decide +kernel
theorem dX6_take_47 : decode cX6_take 47 = .ok (.aload_n 0, 1) := by decide +kernel
theorem dX6_take_48 : decode cX6_take 48 = .ok (.dup, 1) := by decide +kernel
theorem dX6_take_49 : decode cX6_take 49 = .ok (.getfield 19, 3) := by decide +kernel
theorem dX6_take_52 : decode cX6_take 52 = .ok (.iconst 1, 1) := by decide +kernel
theorem dX6_take_53 : decode cX6_take 53 = .ok (.iadd, 1) := by decide +kernel
theorem dX6_take_54 : decode cX6_take 54 = .ok (.putfield 19, 3) := by decide +kernel
theorem dX6_take_57 : decode cX6_take 57 = .ok (.iload_n 3, 1) := by decide +kernel
theorem dX6_take_58 : decode cX6_take 58 = .ok (.ireturn, 1) := by decide +kernel
def fX6_take_31  (g : PH) (v0 : Nat) (s0 : Int32) : Option (Int32 × PH) :=
  if 0 ≤ s0 then ((getI g v0 6 2).bind fun x2 =>
  ((putV g v0 6 2 (.int (x2 + (1 : Int32)))).bind fun g4 =>
  (some (s0, g4)))) else
  ((getI g v0 6 2).bind fun x6 =>
  ((fX6_blame g v0 x6 (1 : Int32)).bind fun q8 =>
  (some ((-1 : Int32), q8.2))))
set_option maxHeartbeats 4000000 in
set_option maxRecDepth 100000 in
theorem bX6_take_31 {K : HK} {E : HE} {r : Int32} {g' : PH}  (C : VC K E 4 cX6_take RX6 (some .int))  {g : PH} {v0 : Nat} {s0 : Int32} (hf : fX6_take_31  g v0 s0 = some (r, g')) : V K E (hRm 4 91 0 0) 4 (hZ K E (some (.int r)) g' 0 0) 0 0 (kS K) g 31 [(0, .ref v0)] [.int s0] := by
  unfold fX6_take_31 at hf
  refine V.istore_n (pc := 31) (L' := [(3, .int s0), (0, .ref v0)]) C dX6_take_31 (by decide) rfl ?_
  refine V.iload_n (pc := 32) C dX6_take_32 0 rfl ?_
  refine V.if_ge (pc := 33) (t := 47) C dX6_take_33 (by decide) (fun c1 => ?_) (fun c1 => ?_)
  · replace hf := ite_t c1 hf
    refine V.aload_n (pc := 47) C dX6_take_47 1 rfl ?_
    refine V.dup (pc := 48) C dX6_take_48 rfl ?_
    replace hf := ob_some hf
    obtain ⟨x2, h3, hf⟩ := hf
    refine V.getI (pc := 49) C kX6 (k := 2) (by decide) wd_36 h3 dX6_take_49 ?_
    refine V.iconst (pc := 52) C dX6_take_52 (v := (1 : Int32)) (by decide) ?_
    refine V.iadd (pc := 53) C dX6_take_53 ?_
    replace hf := ob_some hf
    obtain ⟨g4, h5, hf⟩ := hf
    refine V.putX (pc := 54) C kX6 (k := 2) (by decide) wd_36 rfl rfl rfl h5 dX6_take_54 ?_
    refine V.iload_n (pc := 57) C dX6_take_57 0 rfl ?_
    obtain ⟨f1, f2⟩ := fin2 hf
    clear hf
    subst f1
    subst f2
    exact V.iret (pc := 58) C rfl dX6_take_58
  replace hf := ite_f c1 hf
  refine V.aload_n (pc := 36) C dX6_take_36 1 rfl ?_
  refine V.aload_n (pc := 37) C dX6_take_37 1 rfl ?_
  replace hf := ob_some hf
  obtain ⟨x6, h7, hf⟩ := hf
  refine V.getI (pc := 38) C kX6 (k := 2) (by decide) wd_36 h7 dX6_take_38 ?_
  refine V.iconst (pc := 41) C dX6_take_41 (v := (1 : Int32)) (by decide) ?_
  replace hf := ob_some hf
  obtain ⟨q8, h9, hf⟩ := hf
  refine V.callV0v (pc := 42) C hyX6_blame wd_384 (mX6_blame (r := q8.1) (g' := q8.2) K.2.1 E (kS K) h9) rfl rfl rfl (oX6_blame h9) ⟨Nat.le_of_ble_eq_true rfl, Nat.le_of_ble_eq_true rfl⟩ (Nat.le_of_ble_eq_true rfl) dX6_take_42 ⟨Nat.zero_le _, Nat.zero_le _⟩ rfl ?_
  refine V.iconst (pc := 45) C dX6_take_45 (v := (-1 : Int32)) (by decide) ?_
  obtain ⟨f1, f2⟩ := fin2 hf
  clear hf
  subst f1
  subst f2
  exact V.iret (pc := 46) C rfl dX6_take_46
def fX6_take_30  (g : PH) (v0 : Nat) : Option (Int32 × PH) :=
  fX6_take_31 g v0 (-1 : Int32)
set_option maxHeartbeats 4000000 in
set_option maxRecDepth 100000 in
theorem bX6_take_30 {K : HK} {E : HE} {r : Int32} {g' : PH}  (C : VC K E 4 cX6_take RX6 (some .int))  {g : PH} {v0 : Nat} (hf : fX6_take_30  g v0 = some (r, g')) : V K E (hRm 4 91 0 0) 4 (hZ K E (some (.int r)) g' 0 0) 0 0 (kS K) g 30 [(0, .ref v0)] [] := by
  unfold fX6_take_30 at hf
  refine V.iconst (pc := 30) C dX6_take_30 (v := (-1 : Int32)) (by decide) ?_
  refine V.sub (L' := [(0, .ref v0)]) [0] rfl ?_
  exact bX6_take_31 C  hf
def fX6_take (g : PH) (a0 : Nat) (a1 : Nat) : Option (Int32 × PH) :=
  okb (isO g a0 6) ((fX6_nextPlace g a0).bind fun q1 =>
  ((fX6_byteAt q1.2 a0 q1.1).bind fun q3 =>
  ((getI q3.2 a0 6 3).bind fun x5 =>
  (if x5 = 0 then (if q3.1 = (-1 : Int32) then (fX6_take_30 q3.2 a0) else
  ((fJ0_indexOf_0f7a4 q3.2 a1 (q3.1.toUInt32 % 65536).toInt32).bind fun q9 =>
  (fX6_take_31 q9.2 a0 q9.1))) else
  (fX6_take_30 q3.2 a0)))))
theorem oX6_take {g : PH} {a0 : Nat} {a1 : Nat} {q : (Int32 × PH)} (h : fX6_take g a0 a1 = some q) : isO g a0 6 = true := by unfold fX6_take at h; exact (okb_some h).1
theorem hyX6_take : hMet yX6_take RX6 cX6_take 4 (some .int) 1 := ⟨wd_300, wd_298, wd_299, wd_2, rfl, by decide +kernel, by decide +kernel, by decide +kernel⟩
set_option maxHeartbeats 4000000 in
set_option maxRecDepth 100000 in
theorem mX6_take (l : Launch) (E : HE) (sz : Nat) {g g' : PH} {a0 : Nat} {a1 : Nat} {r : Int32} (hf : fX6_take g a0 a1 = some (r, g')) : hM l E yX6_take cX6_take 4 (some .int) 4 91 0 0 sz g [.ref a0, .ref (eK E a1)] (some (.int r)) g' := by
  refine hM.of (by decide) (Nat.le_of_ble_eq_true rfl) (fun K hl C hin hsz => ?_)
  subst hl
  subst hsz
  have C : VC K E 4 cX6_take RX6 (some .int) := C
  unfold fX6_take at hf
  replace hf := okb_some hf
  obtain ⟨ho, hf⟩ := hf
  refine V.start (L' := [(0, .ref a0), (1, .ref (eK E a1))]) rfl ?_
  refine V.aload_n (pc := 0) C dX6_take_0 0 rfl ?_
  refine V.aload_n (pc := 1) C dX6_take_1 0 rfl ?_
  replace hf := ob_some hf
  obtain ⟨q1, h2, hf⟩ := hf
  refine V.callV0i (pc := 2) C hyX6_nextPlace wd_301 (mX6_nextPlace (r := q1.1) (g' := q1.2) K.2.1 E (kS K) h2) rfl rfl rfl (oX6_nextPlace h2) ⟨Nat.le_of_ble_eq_true rfl, Nat.le_of_ble_eq_true rfl⟩ (Nat.le_of_ble_eq_true rfl) dX6_take_2 ⟨Nat.zero_le _, Nat.zero_le _⟩ rfl ?_
  replace hf := ob_some hf
  obtain ⟨q3, h4, hf⟩ := hf
  refine V.callV0i (pc := 5) C hyX6_byteAt wd_292 (mX6_byteAt (r := q3.1) (g' := q3.2) K.2.1 E (kS K) h4) rfl rfl rfl (oX6_byteAt h4) ⟨Nat.le_of_ble_eq_true rfl, Nat.le_of_ble_eq_true rfl⟩ (Nat.le_of_ble_eq_true rfl) dX6_take_5 ⟨Nat.zero_le _, Nat.zero_le _⟩ rfl ?_
  refine V.istore_n (pc := 8) (L' := [(2, .int q3.1), (0, .ref a0), (1, .ref (eK E a1))]) C dX6_take_8 (by decide) rfl ?_
  refine V.aload_n (pc := 9) C dX6_take_9 1 rfl ?_
  replace hf := ob_some hf
  obtain ⟨x5, h6, hf⟩ := hf
  refine V.getI (pc := 10) C kX6 (k := 3) (by decide) wd_37 h6 dX6_take_10 ?_
  refine V.if_ne (pc := 13) (t := 30) C dX6_take_13 (by decide) (fun c7 => ?_) (fun c7 => ?_)
  · replace hf := ite_f c7 hf
    refine V.sub (L' := [(0, .ref a0)]) [1] rfl ?_
    exact bX6_take_30 C  hf
  replace hf := ite_t c7 hf
  refine V.iload_n (pc := 16) C dX6_take_16 0 rfl ?_
  refine V.iconst (pc := 17) C dX6_take_17 (v := (-1 : Int32)) (by decide) ?_
  refine V.icmp_eq (pc := 18) (t := 30) C dX6_take_18 (by decide) (fun c8 => ?_) (fun c8 => ?_)
  · replace hf := ite_t c8 hf
    refine V.sub (L' := [(0, .ref a0)]) [1] rfl ?_
    exact bX6_take_30 C  hf
  replace hf := ite_f c8 hf
  refine V.aload_n (pc := 21) C dX6_take_21 2 rfl ?_
  refine V.iload_n (pc := 22) C dX6_take_22 0 rfl ?_
  refine V.i2c (pc := 23) C dX6_take_23 ?_
  replace hf := ob_some hf
  obtain ⟨q9, h10, hf⟩ := hf
  refine V.callVSi (pc := 24) C (of_decide_eq_true (oJ0_indexOf_0f7a4 h10)) hyJ0_indexOf_0f7a4 wd_302 (mJ0_indexOf_0f7a4 (r := q9.1) (g' := q9.2) K.2.1 E (kS K) h10) rfl ⟨Nat.le_of_ble_eq_true rfl, Nat.le_of_ble_eq_true rfl⟩ (Nat.le_of_ble_eq_true rfl) dX6_take_24 ⟨Nat.zero_le _, Nat.zero_le _⟩ rfl ?_
  refine V.goto (pc := 27) (t := 31) C dX6_take_27 (by decide) ?_
  refine V.sub (L' := [(0, .ref a0)]) [1] rfl ?_
  exact bX6_take_31 C  hf
theorem dX6_isOver_0 : decode cX6_isOver 0 = .ok (.aload_n 0, 1) := by decide +kernel
theorem dX6_isOver_1 : decode cX6_isOver 1 = .ok (.getfield 22, 3) := by decide +kernel
theorem dX6_isOver_4 : decode cX6_isOver 4 = .ok (.ifCond .ne 14, 3) := by decide +kernel
theorem dX6_isOver_7 : decode cX6_isOver 7 = .ok (.aload_n 0, 1) := by decide +kernel
theorem dX6_isOver_8 : decode cX6_isOver 8 = .ok (.invokevirtual 29, 3) := by decide +kernel
theorem dX6_isOver_11 : decode cX6_isOver 11 = .ok (.aload_n 0, 1) := by decide +kernel
theorem dX6_isOver_12 : decode cX6_isOver 12 = .ok (.getfield 15, 3) := by decide +kernel
theorem dX6_isOver_15 : decode cX6_isOver 15 = .ok (.if_icmp .lt 7, 3) := by decide +kernel
theorem dX6_isOver_18 : decode cX6_isOver 18 = .ok (.iconst 1, 1) := by decide +kernel
theorem dX6_isOver_19 : decode cX6_isOver 19 = .ok (.goto 4, 3) := by decide +kernel
theorem dX6_isOver_22 : decode cX6_isOver 22 = .ok (.iconst 0, 1) := by decide +kernel
theorem dX6_isOver_23 : decode cX6_isOver 23 = .ok (.ireturn, 1) := by decide +kernel
def fX6_isOver (g : PH) (a0 : Nat) : Option (Int32 × PH) :=
  okb (isO g a0 6) ((getI g a0 6 3).bind fun x1 =>
  (if x1 = 0 then ((fX6_nextPlace g a0).bind fun q4 =>
  ((getI q4.2 a0 6 1).bind fun x6 =>
  (if q4.1 < x6 then (some ((0 : Int32), q4.2)) else
  (some ((1 : Int32), q4.2))))) else
  (some ((1 : Int32), g))))
theorem oX6_isOver {g : PH} {a0 : Nat} {q : (Int32 × PH)} (h : fX6_isOver g a0 = some q) : isO g a0 6 = true := by unfold fX6_isOver at h; exact (okb_some h).1
theorem hyX6_isOver : hMet yX6_isOver RX6 cX6_isOver 1 (some .boolean) 0 := ⟨wd_401, wd_399, wd_400, wd_2, rfl, by decide +kernel, by decide +kernel, by decide +kernel⟩
set_option maxHeartbeats 4000000 in
set_option maxRecDepth 100000 in
theorem mX6_isOver (l : Launch) (E : HE) (sz : Nat) {g g' : PH} {a0 : Nat} {r : Int32} (hf : fX6_isOver g a0 = some (r, g')) : hM l E yX6_isOver cX6_isOver 1 (some .boolean) 2 41 0 0 sz g [.ref a0] (some (.int r)) g' := by
  refine hM.of (by decide) (Nat.le_of_ble_eq_true rfl) (fun K hl C hin hsz => ?_)
  subst hl
  subst hsz
  have C : VC K E 1 cX6_isOver RX6 (some .boolean) := C
  unfold fX6_isOver at hf
  replace hf := okb_some hf
  obtain ⟨ho, hf⟩ := hf
  refine V.start (L' := [(0, .ref a0)]) rfl ?_
  refine V.aload_n (pc := 0) C dX6_isOver_0 0 rfl ?_
  replace hf := ob_some hf
  obtain ⟨x1, h2, hf⟩ := hf
  refine V.getI (pc := 1) C kX6 (k := 3) (by decide) wd_37 h2 dX6_isOver_1 ?_
  refine V.if_ne (pc := 4) (t := 18) C dX6_isOver_4 (by decide) (fun c3 => ?_) (fun c3 => ?_)
  · replace hf := ite_f c3 hf
    refine V.iconst (pc := 18) C dX6_isOver_18 (v := (1 : Int32)) (by decide) ?_
    refine V.goto (pc := 19) (t := 23) C dX6_isOver_19 (by decide) ?_
    obtain ⟨f1, f2⟩ := fin2 hf
    clear hf
    subst f1
    subst f2
    exact V.zret (pc := 23) C rfl rfl dX6_isOver_23
  replace hf := ite_t c3 hf
  refine V.aload_n (pc := 7) C dX6_isOver_7 0 rfl ?_
  replace hf := ob_some hf
  obtain ⟨q4, h5, hf⟩ := hf
  refine V.callV0i (pc := 8) C hyX6_nextPlace wd_301 (mX6_nextPlace (r := q4.1) (g' := q4.2) K.2.1 E (kS K) h5) rfl rfl rfl (oX6_nextPlace h5) ⟨Nat.le_of_ble_eq_true rfl, Nat.le_of_ble_eq_true rfl⟩ (Nat.le_of_ble_eq_true rfl) dX6_isOver_8 ⟨Nat.zero_le _, Nat.zero_le _⟩ rfl ?_
  refine V.aload_n (pc := 11) C dX6_isOver_11 0 rfl ?_
  replace hf := ob_some hf
  obtain ⟨x6, h7, hf⟩ := hf
  refine V.getI (pc := 12) C kX6 (k := 1) (by decide) wd_34 h7 dX6_isOver_12 ?_
  refine V.icmp_lt (pc := 15) (t := 22) C dX6_isOver_15 (by decide) (fun c8 => ?_) (fun c8 => ?_)
  · replace hf := ite_t c8 hf
    refine V.iconst (pc := 22) C dX6_isOver_22 (v := (0 : Int32)) (by decide) ?_
    obtain ⟨f1, f2⟩ := fin2 hf
    clear hf
    subst f1
    subst f2
    exact V.zret (pc := 23) C rfl rfl dX6_isOver_23
  replace hf := ite_f c8 hf
  refine V.iconst (pc := 18) C dX6_isOver_18 (v := (1 : Int32)) (by decide) ?_
  refine V.goto (pc := 19) (t := 23) C dX6_isOver_19 (by decide) ?_
  obtain ⟨f1, f2⟩ := fin2 hf
  clear hf
  subst f1
  subst f2
  exact V.zret (pc := 23) C rfl rfl dX6_isOver_23
theorem dX6_takeWord_0 : decode cX6_takeWord 0 = .ok (.aload_n 0, 1) := by decide +kernel
theorem dX6_takeWord_1 : decode cX6_takeWord 1 = .ok (.invokevirtual 29, 3) := by decide +kernel
theorem dX6_takeWord_4 : decode cX6_takeWord 4 = .ok (.istore_n 2, 1) := by decide +kernel
theorem dX6_takeWord_5 : decode cX6_takeWord 5 = .ok (.aload_n 1, 1) := by decide +kernel
theorem dX6_takeWord_6 : decode cX6_takeWord 6 = .ok (.invokevirtual 42, 3) := by decide +kernel
theorem dX6_takeWord_9 : decode cX6_takeWord 9 = .ok (.istore_n 3, 1) := by decide +kernel
theorem dX6_takeWord_10 : decode cX6_takeWord 10 = .ok (.iconst 0, 1) := by decide +kernel
theorem dX6_takeWord_11 : decode cX6_takeWord 11 = .ok (.istore 4, 2) := by decide +kernel
theorem dX6_takeWord_13 : decode cX6_takeWord 13 = .ok (.iload 4, 2) := by decide +kernel
theorem dX6_takeWord_15 : decode cX6_takeWord 15 = .ok (.iload_n 3, 1) := by decide +kernel
theorem dX6_takeWord_16 : decode cX6_takeWord 16 = .ok (.if_icmp .ge 28, 3) := by decide +kernel
theorem dX6_takeWord_19 : decode cX6_takeWord 19 = .ok (.aload_n 0, 1) := by decide +kernel
theorem dX6_takeWord_20 : decode cX6_takeWord 20 = .ok (.iload_n 2, 1) := by decide +kernel
theorem dX6_takeWord_21 : decode cX6_takeWord 21 = .ok (.iload 4, 2) := by decide +kernel
theorem dX6_takeWord_23 : decode cX6_takeWord 23 = .ok (.iadd, 1) := by decide +kernel
theorem dX6_takeWord_24 : decode cX6_takeWord 24 = .ok (.invokevirtual 25, 3) := by decide +kernel
theorem dX6_takeWord_27 : decode cX6_takeWord 27 = .ok (.aload_n 1, 1) := by decide +kernel
theorem dX6_takeWord_28 : decode cX6_takeWord 28 = .ok (.iload 4, 2) := by decide +kernel
theorem dX6_takeWord_30 : decode cX6_takeWord 30 = .ok (.invokevirtual 44, 3) := by decide +kernel
theorem dX6_takeWord_33 : decode cX6_takeWord 33 = .ok (.if_icmp .eq 5, 3) := by decide +kernel
theorem dX6_takeWord_36 : decode cX6_takeWord 36 = .ok (.iconst 0, 1) := by decide +kernel
theorem dX6_takeWord_37 : decode cX6_takeWord 37 = .ok (.ireturn, 1) := by decide +kernel
theorem dX6_takeWord_38 : decode cX6_takeWord 38 = .ok (.iinc 4 1, 3) := by decide +kernel
theorem dX6_takeWord_41 : decode cX6_takeWord 41 = .ok (.goto (-28), 3) := by decide +kernel
theorem dX6_takeWord_44 : decode cX6_takeWord 44 = .ok (.aload_n 0, 1) := by decide +kernel
theorem dX6_takeWord_45 : decode cX6_takeWord 45 = .ok (.iload_n 2, 1) := by decide +kernel
theorem dX6_takeWord_46 : decode cX6_takeWord 46 = .ok (.iload_n 3, 1) := by decide +kernel
theorem dX6_takeWord_47 : decode cX6_takeWord 47 = .ok (.iadd, 1) := by decide +kernel
theorem dX6_takeWord_48 : decode cX6_takeWord 48 = .ok (.invokevirtual 25, 3) := by decide +kernel
theorem dX6_takeWord_51 : decode cX6_takeWord 51 = .ok (.istore 4, 2) := by decide +kernel
theorem dX6_takeWord_53 : decode cX6_takeWord 53 = .ok (.iload 4, 2) := by decide +kernel
theorem dX6_takeWord_55 : decode cX6_takeWord 55 = .ok (.bipush 97, 2) := by decide +kernel
theorem dX6_takeWord_57 : decode cX6_takeWord 57 = .ok (.if_icmp .lt 12, 3) := by decide +kernel
theorem dX6_takeWord_60 : decode cX6_takeWord 60 = .ok (.iload 4, 2) := by decide +kernel
theorem dX6_takeWord_62 : decode cX6_takeWord 62 = .ok (.bipush 122, 2) := by decide +kernel
theorem dX6_takeWord_64 : decode cX6_takeWord 64 = .ok (.if_icmp .gt 5, 3) := by decide +kernel
theorem dX6_takeWord_67 : decode cX6_takeWord 67 = .ok (.iconst 0, 1) := by decide +kernel
theorem dX6_takeWord_68 : decode cX6_takeWord 68 = .ok (.ireturn, 1) := by decide +kernel
theorem dX6_takeWord_69 : decode cX6_takeWord 69 = .ok (.aload_n 0, 1) := by decide +kernel
theorem dX6_takeWord_70 : decode cX6_takeWord 70 = .ok (.iload_n 2, 1) := by decide +kernel
theorem dX6_takeWord_71 : decode cX6_takeWord 71 = .ok (.iload_n 3, 1) := by decide +kernel
theorem dX6_takeWord_72 : decode cX6_takeWord 72 = .ok (.iadd, 1) := by decide +kernel
theorem dX6_takeWord_73 : decode cX6_takeWord 73 = .ok (.putfield 19, 3) := by decide +kernel
theorem dX6_takeWord_76 : decode cX6_takeWord 76 = .ok (.iconst 1, 1) := by decide +kernel
theorem dX6_takeWord_77 : decode cX6_takeWord 77 = .ok (.ireturn, 1) := by decide +kernel
def fX6_takeWord_13  : Nat → PH → Nat → Nat → Int32 → Int32 → Int32 → Option (Int32 × PH)
  | 0, _, _, _, _, _, _ => none
  | n + 1, g, v0, v1, v2, v3, v4 =>
  if v3 ≤ v4 then ((fX6_byteAt g v0 (v2 + v3)).bind fun q2 =>
  (if q2.1 < (97 : Int32) then ((putV q2.2 v0 6 2 (.int (v2 + v3))).bind fun g5 =>
  (some ((1 : Int32), g5))) else
  (if (122 : Int32) < q2.1 then ((putV q2.2 v0 6 2 (.int (v2 + v3))).bind fun g8 =>
  (some ((1 : Int32), g8))) else
  (some ((0 : Int32), q2.2))))) else
  ((fX6_byteAt g v0 (v2 + v4)).bind fun q10 =>
  ((fJ0_charAt_5068e q10.2 v1 v4).bind fun q12 =>
  (if q10.1 = q12.1 then (fX6_takeWord_13 n q12.2 v0 v1 v2 v3 (v4 + (1 : Int32))) else
  (some ((0 : Int32), q12.2)))))
set_option maxHeartbeats 4000000 in
set_option maxRecDepth 100000 in
theorem bX6_takeWord_13 {K : HK} {E : HE} {r : Int32} {g' : PH}  (C : VC K E 5 cX6_takeWord RX6 (some .boolean))  : ∀ (n : Nat) (g : PH) (v0 : Nat) (v1 : Nat) (v2 : Int32) (v3 : Int32) (v4 : Int32), fX6_takeWord_13  n g v0 v1 v2 v3 v4 = some (r, g') → V K E (hRm 4 85 0 0) 5 (hZ K E (some (.int r)) g' 0 0) 0 0 (kS K) g 13 [(0, .ref v0), (1, .ref (eK E v1)), (2, .int v2), (3, .int v3), (4, .int v4)] [] := by
  intro n
  induction n with
  | zero =>
    intro g v0 v1 v2 v3 v4 hf
    rw [fX6_takeWord_13] at hf
    cases hf
  | succ n ih =>
    intro g v0 v1 v2 v3 v4 hf
    rw [fX6_takeWord_13] at hf
    refine V.iload (pc := 13) C dX6_takeWord_13 4 rfl ?_
    refine V.iload_n (pc := 15) C dX6_takeWord_15 3 rfl ?_
    refine V.icmp_ge (pc := 16) (t := 44) C dX6_takeWord_16 (by decide) (fun c1 => ?_) (fun c1 => ?_)
    · replace hf := ite_t c1 hf
      refine V.aload_n (pc := 44) C dX6_takeWord_44 0 rfl ?_
      refine V.iload_n (pc := 45) C dX6_takeWord_45 2 rfl ?_
      refine V.iload_n (pc := 46) C dX6_takeWord_46 3 rfl ?_
      refine V.iadd (pc := 47) C dX6_takeWord_47 ?_
      replace hf := ob_some hf
      obtain ⟨q2, h3, hf⟩ := hf
      refine V.callV0i (pc := 48) C hyX6_byteAt wd_292 (mX6_byteAt (r := q2.1) (g' := q2.2) K.2.1 E (kS K) h3) rfl rfl rfl (oX6_byteAt h3) ⟨Nat.le_of_ble_eq_true rfl, Nat.le_of_ble_eq_true rfl⟩ (Nat.le_of_ble_eq_true rfl) dX6_takeWord_48 ⟨Nat.zero_le _, Nat.zero_le _⟩ rfl ?_
      refine V.istore (pc := 51) (L' := [(4, .int q2.1), (0, .ref v0), (1, .ref (eK E v1)), (2, .int v2), (3, .int v3)]) C dX6_takeWord_51 (by decide) rfl ?_
      refine V.iload (pc := 53) C dX6_takeWord_53 0 rfl ?_
      refine V.bipush (pc := 55) C dX6_takeWord_55 (v := (97 : Int32)) (by decide) ?_
      refine V.icmp_lt (pc := 57) (t := 69) C dX6_takeWord_57 (by decide) (fun c4 => ?_) (fun c4 => ?_)
      · replace hf := ite_t c4 hf
        refine V.aload_n (pc := 69) C dX6_takeWord_69 1 rfl ?_
        refine V.iload_n (pc := 70) C dX6_takeWord_70 3 rfl ?_
        refine V.iload_n (pc := 71) C dX6_takeWord_71 4 rfl ?_
        refine V.iadd (pc := 72) C dX6_takeWord_72 ?_
        replace hf := ob_some hf
        obtain ⟨g5, h6, hf⟩ := hf
        refine V.putX (pc := 73) C kX6 (k := 2) (by decide) wd_36 rfl rfl rfl h6 dX6_takeWord_73 ?_
        refine V.iconst (pc := 76) C dX6_takeWord_76 (v := (1 : Int32)) (by decide) ?_
        obtain ⟨f1, f2⟩ := fin2 hf
        clear hf
        subst f1
        subst f2
        exact V.zret (pc := 77) C rfl rfl dX6_takeWord_77
      replace hf := ite_f c4 hf
      refine V.iload (pc := 60) C dX6_takeWord_60 0 rfl ?_
      refine V.bipush (pc := 62) C dX6_takeWord_62 (v := (122 : Int32)) (by decide) ?_
      refine V.icmp_gt (pc := 64) (t := 69) C dX6_takeWord_64 (by decide) (fun c7 => ?_) (fun c7 => ?_)
      · replace hf := ite_t c7 hf
        refine V.aload_n (pc := 69) C dX6_takeWord_69 1 rfl ?_
        refine V.iload_n (pc := 70) C dX6_takeWord_70 3 rfl ?_
        refine V.iload_n (pc := 71) C dX6_takeWord_71 4 rfl ?_
        refine V.iadd (pc := 72) C dX6_takeWord_72 ?_
        replace hf := ob_some hf
        obtain ⟨g8, h9, hf⟩ := hf
        refine V.putX (pc := 73) C kX6 (k := 2) (by decide) wd_36 rfl rfl rfl h9 dX6_takeWord_73 ?_
        refine V.iconst (pc := 76) C dX6_takeWord_76 (v := (1 : Int32)) (by decide) ?_
        obtain ⟨f1, f2⟩ := fin2 hf
        clear hf
        subst f1
        subst f2
        exact V.zret (pc := 77) C rfl rfl dX6_takeWord_77
      replace hf := ite_f c7 hf
      refine V.iconst (pc := 67) C dX6_takeWord_67 (v := (0 : Int32)) (by decide) ?_
      obtain ⟨f1, f2⟩ := fin2 hf
      clear hf
      subst f1
      subst f2
      exact V.zret (pc := 68) C rfl rfl dX6_takeWord_68
    replace hf := ite_f c1 hf
    refine V.aload_n (pc := 19) C dX6_takeWord_19 0 rfl ?_
    refine V.iload_n (pc := 20) C dX6_takeWord_20 2 rfl ?_
    refine V.iload (pc := 21) C dX6_takeWord_21 4 rfl ?_
    refine V.iadd (pc := 23) C dX6_takeWord_23 ?_
    replace hf := ob_some hf
    obtain ⟨q10, h11, hf⟩ := hf
    refine V.callV0i (pc := 24) C hyX6_byteAt wd_292 (mX6_byteAt (r := q10.1) (g' := q10.2) K.2.1 E (kS K) h11) rfl rfl rfl (oX6_byteAt h11) ⟨Nat.le_of_ble_eq_true rfl, Nat.le_of_ble_eq_true rfl⟩ (Nat.le_of_ble_eq_true rfl) dX6_takeWord_24 ⟨Nat.zero_le _, Nat.zero_le _⟩ rfl ?_
    refine V.aload_n (pc := 27) C dX6_takeWord_27 1 rfl ?_
    refine V.iload (pc := 28) C dX6_takeWord_28 4 rfl ?_
    replace hf := ob_some hf
    obtain ⟨q12, h13, hf⟩ := hf
    refine V.callVSi (pc := 30) C (of_decide_eq_true (oJ0_charAt_5068e h13)) hyJ0_charAt_5068e wd_499 (mJ0_charAt_5068e (r := q12.1) (g' := q12.2) K.2.1 E (kS K) h13) rfl ⟨Nat.le_of_ble_eq_true rfl, Nat.le_of_ble_eq_true rfl⟩ (Nat.le_of_ble_eq_true rfl) dX6_takeWord_30 ⟨Nat.zero_le _, Nat.zero_le _⟩ rfl ?_
    refine V.icmp_eq (pc := 33) (t := 38) C dX6_takeWord_33 (by decide) (fun c14 => ?_) (fun c14 => ?_)
    · replace hf := ite_t c14 hf
      refine V.iinc (pc := 38) (v := (v4 + (1 : Int32))) (L' := [(4, .int (v4 + (1 : Int32))), (0, .ref v0), (1, .ref (eK E v1)), (2, .int v2), (3, .int v3)]) C dX6_takeWord_38 4 rfl rfl (by decide) rfl ?_
      refine V.goto (pc := 41) (t := 13) C dX6_takeWord_41 (by decide) ?_
      refine V.sub (L' := [(0, .ref v0), (1, .ref (eK E v1)), (2, .int v2), (3, .int v3), (4, .int (v4 + (1 : Int32)))]) [1, 2, 3, 4, 0] rfl ?_
      exact ih _ _ _ _ _ _ hf
    replace hf := ite_f c14 hf
    refine V.iconst (pc := 36) C dX6_takeWord_36 (v := (0 : Int32)) (by decide) ?_
    obtain ⟨f1, f2⟩ := fin2 hf
    clear hf
    subst f1
    subst f2
    exact V.zret (pc := 37) C rfl rfl dX6_takeWord_37
def fX6_takeWord (g : PH) (a0 : Nat) (a1 : Nat) : Option (Int32 × PH) :=
  okb (isO g a0 6) ((fX6_nextPlace g a0).bind fun q1 =>
  ((fJ0_length_8abf5 q1.2 a1).bind fun q3 =>
  (fX6_takeWord_13 FUEL q3.2 a0 a1 q1.1 q3.1 (0 : Int32))))
theorem oX6_takeWord {g : PH} {a0 : Nat} {a1 : Nat} {q : (Int32 × PH)} (h : fX6_takeWord g a0 a1 = some q) : isO g a0 6 = true := by unfold fX6_takeWord at h; exact (okb_some h).1
theorem hyX6_takeWord : hMet yX6_takeWord RX6 cX6_takeWord 5 (some .boolean) 1 := ⟨wd_497, wd_495, wd_496, wd_2, rfl, by decide +kernel, by decide +kernel, by decide +kernel⟩
set_option maxHeartbeats 4000000 in
set_option maxRecDepth 100000 in
theorem mX6_takeWord (l : Launch) (E : HE) (sz : Nat) {g g' : PH} {a0 : Nat} {a1 : Nat} {r : Int32} (hf : fX6_takeWord g a0 a1 = some (r, g')) : hM l E yX6_takeWord cX6_takeWord 5 (some .boolean) 4 85 0 0 sz g [.ref a0, .ref (eK E a1)] (some (.int r)) g' := by
  refine hM.of (by decide) (Nat.le_of_ble_eq_true rfl) (fun K hl C hin hsz => ?_)
  subst hl
  subst hsz
  have C : VC K E 5 cX6_takeWord RX6 (some .boolean) := C
  unfold fX6_takeWord at hf
  replace hf := okb_some hf
  obtain ⟨ho, hf⟩ := hf
  refine V.start (L' := [(0, .ref a0), (1, .ref (eK E a1))]) rfl ?_
  refine V.aload_n (pc := 0) C dX6_takeWord_0 0 rfl ?_
  replace hf := ob_some hf
  obtain ⟨q1, h2, hf⟩ := hf
  refine V.callV0i (pc := 1) C hyX6_nextPlace wd_301 (mX6_nextPlace (r := q1.1) (g' := q1.2) K.2.1 E (kS K) h2) rfl rfl rfl (oX6_nextPlace h2) ⟨Nat.le_of_ble_eq_true rfl, Nat.le_of_ble_eq_true rfl⟩ (Nat.le_of_ble_eq_true rfl) dX6_takeWord_1 ⟨Nat.zero_le _, Nat.zero_le _⟩ rfl ?_
  refine V.istore_n (pc := 4) (L' := [(2, .int q1.1), (0, .ref a0), (1, .ref (eK E a1))]) C dX6_takeWord_4 (by decide) rfl ?_
  refine V.aload_n (pc := 5) C dX6_takeWord_5 2 rfl ?_
  replace hf := ob_some hf
  obtain ⟨q3, h4, hf⟩ := hf
  refine V.callVSi (pc := 6) C (of_decide_eq_true (oJ0_length_8abf5 h4)) hyJ0_length_8abf5 wd_498 (mJ0_length_8abf5 (r := q3.1) (g' := q3.2) K.2.1 E (kS K) h4) rfl ⟨Nat.le_of_ble_eq_true rfl, Nat.le_of_ble_eq_true rfl⟩ (Nat.le_of_ble_eq_true rfl) dX6_takeWord_6 ⟨Nat.zero_le _, Nat.zero_le _⟩ rfl ?_
  refine V.istore_n (pc := 9) (L' := [(3, .int q3.1), (2, .int q1.1), (0, .ref a0), (1, .ref (eK E a1))]) C dX6_takeWord_9 (by decide) rfl ?_
  refine V.iconst (pc := 10) C dX6_takeWord_10 (v := (0 : Int32)) (by decide) ?_
  refine V.istore (pc := 11) (L' := [(4, .int (0 : Int32)), (3, .int q3.1), (2, .int q1.1), (0, .ref a0), (1, .ref (eK E a1))]) C dX6_takeWord_11 (by decide) rfl ?_
  refine V.sub (L' := [(0, .ref a0), (1, .ref (eK E a1)), (2, .int q1.1), (3, .int q3.1), (4, .int (0 : Int32))]) [3, 4, 2, 1, 0] rfl ?_
  exact bX6_takeWord_13 C  _ _ _ _ _ _ _ hf
theorem dX6_init_0 : decode cX6_init 0 = .ok (.aload_n 0, 1) := by decide +kernel
theorem dX6_init_1 : decode cX6_init 1 = .ok (.invokespecial 3, 3) := by decide +kernel
theorem dX6_init_4 : decode cX6_init 4 = .ok (.aload_n 0, 1) := by decide +kernel
theorem dX6_init_5 : decode cX6_init 5 = .ok (.sipush 200, 3) := by decide +kernel
theorem dX6_init_8 : decode cX6_init 8 = .ok (.newarray .byte, 2) := by decide +kernel
theorem dX6_init_10 : decode cX6_init 10 = .ok (.putfield 11, 3) := by decide +kernel
theorem dX6_init_13 : decode cX6_init 13 = .ok (.aload_n 0, 1) := by decide +kernel
theorem dX6_init_14 : decode cX6_init 14 = .ok (.iconst 0, 1) := by decide +kernel
theorem dX6_init_15 : decode cX6_init 15 = .ok (.putfield 15, 3) := by decide +kernel
theorem dX6_init_18 : decode cX6_init 18 = .ok (.aload_n 0, 1) := by decide +kernel
theorem dX6_init_19 : decode cX6_init 19 = .ok (.iconst 0, 1) := by decide +kernel
theorem dX6_init_20 : decode cX6_init 20 = .ok (.putfield 19, 3) := by decide +kernel
theorem dX6_init_23 : decode cX6_init 23 = .ok (.aload_n 0, 1) := by decide +kernel
theorem dX6_init_24 : decode cX6_init 24 = .ok (.iconst 0, 1) := by decide +kernel
theorem dX6_init_25 : decode cX6_init 25 = .ok (.putfield 22, 3) := by decide +kernel
theorem dX6_init_28 : decode cX6_init 28 = .ok (.return_, 1) := by decide +kernel
def fX6_init (sz : Nat) (g : PH) (a0 : Nat) : Option (Unit × PH × Nat × Nat) :=
  bmp 1 200 ((putV (hup g sz (.inl (1, 200, .inl (fun _ => 0)))) a0 6 0 (.ref sz)).bind fun g6 =>
  ((putV g6 a0 6 1 (.int (0 : Int32))).bind fun g8 =>
  ((putV g8 a0 6 2 (.int (0 : Int32))).bind fun g10 =>
  ((putV g10 a0 6 3 (.int (0 : Int32))).bind fun g12 =>
  (some ((), g12, 0, 0))))))
theorem hyX6_init : hMetI yX6_init cX6_init 1 0 := ⟨wd_31, wd_30, wd_2, rfl, by decide +kernel, by decide +kernel, by decide +kernel⟩
set_option maxHeartbeats 4000000 in
set_option maxRecDepth 100000 in
theorem mX6_init (l : Launch) (E : HE) (sz : Nat) {g g' : PH} {a0 : Nat} {r : Unit} {mc ms : Nat} (hf : fX6_init sz g a0 = some (r, g', mc, ms)) : hM l E yX6_init cX6_init 1 none 1 20 mc ms sz g [.ref a0] none g' := by
  refine hM.of (by decide) (Nat.le_of_ble_eq_true rfl) (fun K hl C hin hsz => ?_)
  subst hl
  subst hsz
  have C : VC K E 1 cX6_init RX6 none := C
  have hin := hin rfl
  unfold fX6_init at hf
  have hkS : K.2.2.2.1.heap.size = kS K := rfl
  have e1 : 0 + mc = mc := Nat.zero_add _
  have e2 : 0 + ms = ms := Nat.zero_add _
  have e3 : kS K = kS K + 0 := rfl
  refine V.start (L' := [(0, .ref a0)]) rfl ?_
  refine V.aload_n (pc := 0) C dX6_init_0 0 rfl ?_
  refine V.objInit (pc := 1) C wd_32 wd_25 wd_26 (Nat.le_of_ble_eq_true rfl) ⟨Nat.le_of_ble_eq_true rfl, Nat.le_of_ble_eq_true rfl⟩ dX6_init_1 ?_
  refine V.aload_n (pc := 4) C dX6_init_4 0 rfl ?_
  refine V.sipush (pc := 5) C dX6_init_5 (v := (200 : Int32)) (by decide) ?_
  replace hf := bmp_some hf
  obtain ⟨b1, b2, hf, h3, h4⟩ := hf
  refine V.newB (pc := 8) (M := 200) C wd_48 (by decide) (by decide) (by decide) (by show _ ≤ mc; omega) (by show _ ≤ ms; omega) dX6_init_8 ?_
  replace hf := ob_some hf
  obtain ⟨g6, h7, hf⟩ := hf
  refine V.putF (pc := 10) C kX6 (k := 0) (by decide) wd_33 rfl hin rfl rfl rfl h7 dX6_init_10 ?_
  refine V.aload_n (pc := 13) C dX6_init_13 0 rfl ?_
  refine V.iconst (pc := 14) C dX6_init_14 (v := (0 : Int32)) (by decide) ?_
  replace hf := ob_some hf
  obtain ⟨g8, h9, hf⟩ := hf
  refine V.putX (pc := 15) C kX6 (k := 1) (by decide) wd_34 rfl rfl rfl h9 dX6_init_15 ?_
  refine V.aload_n (pc := 18) C dX6_init_18 0 rfl ?_
  refine V.iconst (pc := 19) C dX6_init_19 (v := (0 : Int32)) (by decide) ?_
  replace hf := ob_some hf
  obtain ⟨g10, h11, hf⟩ := hf
  refine V.putX (pc := 20) C kX6 (k := 2) (by decide) wd_36 rfl rfl rfl h11 dX6_init_20 ?_
  refine V.aload_n (pc := 23) C dX6_init_23 0 rfl ?_
  refine V.iconst (pc := 24) C dX6_init_24 (v := (0 : Int32)) (by decide) ?_
  replace hf := ob_some hf
  obtain ⟨g12, h13, hf⟩ := hf
  refine V.putX (pc := 25) C kX6 (k := 3) (by decide) wd_37 rfl rfl rfl h13 dX6_init_25 ?_
  obtain ⟨f1, f2, f3, f4⟩ := fin4 hf
  clear hf
  subst f1
  subst f2
  refine V.cast (c := mc) (s := ms) (by omega) (by omega) ?_
  exact V.vret (pc := 28) C (by omega) dX6_init_28
theorem dX6_append_0 : decode cX6_append 0 = .ok (.bipush 24, 2) := by decide +kernel
theorem dX6_append_2 : decode cX6_append 2 = .ok (.istore_n 2, 1) := by decide +kernel
theorem dX6_append_3 : decode cX6_append 3 = .ok (.iload_n 2, 1) := by decide +kernel
theorem dX6_append_4 : decode cX6_append 4 = .ok (.ifCond .lt 42, 3) := by decide +kernel
theorem dX6_append_7 : decode cX6_append 7 = .ok (.aload_n 0, 1) := by decide +kernel
theorem dX6_append_8 : decode cX6_append 8 = .ok (.getfield 15, 3) := by decide +kernel
theorem dX6_append_11 : decode cX6_append 11 = .ok (.sipush 200, 3) := by decide +kernel
theorem dX6_append_14 : decode cX6_append 14 = .ok (.if_icmp .ge 26, 3) := by decide +kernel
theorem dX6_append_17 : decode cX6_append 17 = .ok (.aload_n 0, 1) := by decide +kernel
theorem dX6_append_18 : decode cX6_append 18 = .ok (.getfield 11, 3) := by decide +kernel
theorem dX6_append_21 : decode cX6_append 21 = .ok (.aload_n 0, 1) := by decide +kernel
theorem dX6_append_22 : decode cX6_append 22 = .ok (.getfield 15, 3) := by decide +kernel
theorem dX6_append_25 : decode cX6_append 25 = .ok (.iload_n 1, 1) := by decide +kernel
theorem dX6_append_26 : decode cX6_append 26 = .ok (.iload_n 2, 1) := by decide +kernel
theorem dX6_append_27 : decode cX6_append 27 = .ok (.ishr, 1) := by decide +kernel
theorem dX6_append_28 : decode cX6_append 28 = .ok (.i2b, 1) := by decide +kernel
theorem dX6_append_29 : decode cX6_append 29 = .ok (.bastore, 1) := by decide +kernel
theorem dX6_append_30 : decode cX6_append 30 = .ok (.aload_n 0, 1) := by decide +kernel
theorem dX6_append_31 : decode cX6_append 31 = .ok (.dup, 1) := by decide +kernel
theorem dX6_append_32 : decode cX6_append 32 = .ok (.getfield 15, 3) := by decide +kernel
theorem dX6_append_35 : decode cX6_append 35 = .ok (.iconst 1, 1) := by decide +kernel
theorem dX6_append_36 : decode cX6_append 36 = .ok (.iadd, 1) := by decide +kernel
theorem dX6_append_37 : decode cX6_append 37 = .ok (.putfield 15, 3) := by decide +kernel
theorem dX6_append_40 : decode cX6_append 40 = .ok (.iinc 2 (-8), 3) := by decide +kernel
theorem dX6_append_43 : decode cX6_append 43 = .ok (.goto (-40), 3) := by decide +kernel
theorem dX6_append_46 : decode cX6_append 46 = .ok (.return_, 1) := by decide +kernel
def fX6_append_40 (k3 : PH → Nat → Int32 → Int32 → Option (Unit × PH)) (g : PH) (v0 : Nat) (v1 : Int32) (v2 : Int32) : Option (Unit × PH) :=
  k3 g v0 v1 (v2 + (-8 : Int32))
set_option maxHeartbeats 4000000 in
set_option maxRecDepth 100000 in
theorem bX6_append_40 {K : HK} {E : HE} {r : Unit} {g' : PH} {k3 : PH → Nat → Int32 → Int32 → Option (Unit × PH)} (C : VC K E 3 cX6_append RX6 none) (hk3 : ∀ (g : PH) (v0 : Nat) (v1 : Int32) (v2 : Int32), k3 g v0 v1 v2 = some (r, g') → V K E (hRm 0 0 0 0) 3 (hZ K E none g' 0 0) 0 0 (kS K) g 3 [(0, .ref v0), (1, .int v1), (2, .int v2)] []) {g : PH} {v0 : Nat} {v1 : Int32} {v2 : Int32} (hf : fX6_append_40 k3 g v0 v1 v2 = some (r, g')) : V K E (hRm 0 0 0 0) 3 (hZ K E none g' 0 0) 0 0 (kS K) g 40 [(0, .ref v0), (1, .int v1), (2, .int v2)] [] := by
  unfold fX6_append_40 at hf
  refine V.iinc (pc := 40) (v := (v2 + (-8 : Int32))) (L' := [(2, .int (v2 + (-8 : Int32))), (0, .ref v0), (1, .int v1)]) C dX6_append_40 2 rfl rfl (by decide) rfl ?_
  refine V.goto (pc := 43) (t := 3) C dX6_append_43 (by decide) ?_
  refine V.sub (L' := [(0, .ref v0), (1, .int v1), (2, .int (v2 + (-8 : Int32)))]) [1, 2, 0] rfl ?_
  exact hk3 _ _ _ _ hf
def fX6_append_3  : Nat → PH → Nat → Int32 → Int32 → Option (Unit × PH)
  | 0, _, _, _, _ => none
  | n + 1, g, v0, v1, v2 =>
  if v2 < 0 then (some ((), g)) else
  ((getI g v0 6 1).bind fun x2 =>
  (if (200 : Int32) ≤ x2 then (fX6_append_40 (fX6_append_3 n) g v0 v1 v2) else
  ((getR g v0 6 0).bind fun p5 =>
  ((getI g v0 6 1).bind fun x7 =>
  ((stI g p5 1 x7 (vp_nar .byte (v1 >>> (v2 &&& 31)).toInt8.toInt32)).bind fun g9 =>
  ((getI g9 v0 6 1).bind fun x11 =>
  ((putV g9 v0 6 1 (.int (x11 + (1 : Int32)))).bind fun g13 =>
  (fX6_append_40 (fX6_append_3 n) g13 v0 v1 v2))))))))
set_option maxHeartbeats 4000000 in
set_option maxRecDepth 100000 in
theorem bX6_append_3 {K : HK} {E : HE} {r : Unit} {g' : PH}  (C : VC K E 3 cX6_append RX6 none)  : ∀ (n : Nat) (g : PH) (v0 : Nat) (v1 : Int32) (v2 : Int32), fX6_append_3  n g v0 v1 v2 = some (r, g') → V K E (hRm 0 0 0 0) 3 (hZ K E none g' 0 0) 0 0 (kS K) g 3 [(0, .ref v0), (1, .int v1), (2, .int v2)] [] := by
  intro n
  induction n with
  | zero =>
    intro g v0 v1 v2 hf
    rw [fX6_append_3] at hf
    cases hf
  | succ n ih =>
    intro g v0 v1 v2 hf
    rw [fX6_append_3] at hf
    refine V.iload_n (pc := 3) C dX6_append_3 2 rfl ?_
    refine V.if_lt (pc := 4) (t := 46) C dX6_append_4 (by decide) (fun c1 => ?_) (fun c1 => ?_)
    · replace hf := ite_t c1 hf
      obtain ⟨f1, f2⟩ := fin2 hf
      clear hf
      subst f1
      subst f2
      exact V.vret (pc := 46) C rfl dX6_append_46
    replace hf := ite_f c1 hf
    refine V.aload_n (pc := 7) C dX6_append_7 0 rfl ?_
    replace hf := ob_some hf
    obtain ⟨x2, h3, hf⟩ := hf
    refine V.getI (pc := 8) C kX6 (k := 1) (by decide) wd_34 h3 dX6_append_8 ?_
    refine V.sipush (pc := 11) C dX6_append_11 (v := (200 : Int32)) (by decide) ?_
    refine V.icmp_ge (pc := 14) (t := 40) C dX6_append_14 (by decide) (fun c4 => ?_) (fun c4 => ?_)
    · replace hf := ite_t c4 hf
      refine V.sub (L' := [(0, .ref v0), (1, .int v1), (2, .int v2)]) [0, 1, 2] rfl ?_
      exact bX6_append_40 C ih hf
    replace hf := ite_f c4 hf
    refine V.aload_n (pc := 17) C dX6_append_17 0 rfl ?_
    replace hf := ob_some hf
    obtain ⟨p5, h6, hf⟩ := hf
    refine V.getR (pc := 18) C kX6 (k := 0) (by decide) wd_33 h6 dX6_append_18 ?_
    refine V.aload_n (pc := 21) C dX6_append_21 0 rfl ?_
    replace hf := ob_some hf
    obtain ⟨x7, h8, hf⟩ := hf
    refine V.getI (pc := 22) C kX6 (k := 1) (by decide) wd_34 h8 dX6_append_22 ?_
    refine V.iload_n (pc := 25) C dX6_append_25 1 rfl ?_
    refine V.iload_n (pc := 26) C dX6_append_26 2 rfl ?_
    refine V.ishr (pc := 27) C dX6_append_27 ?_
    refine V.i2b (pc := 28) C dX6_append_28 ?_
    replace hf := ob_some hf
    obtain ⟨g9, h10, hf⟩ := hf
    refine V.bast (pc := 29) C h10 dX6_append_29 ?_
    refine V.aload_n (pc := 30) C dX6_append_30 0 rfl ?_
    refine V.dup (pc := 31) C dX6_append_31 rfl ?_
    replace hf := ob_some hf
    obtain ⟨x11, h12, hf⟩ := hf
    refine V.getI (pc := 32) C kX6 (k := 1) (by decide) wd_34 h12 dX6_append_32 ?_
    refine V.iconst (pc := 35) C dX6_append_35 (v := (1 : Int32)) (by decide) ?_
    refine V.iadd (pc := 36) C dX6_append_36 ?_
    replace hf := ob_some hf
    obtain ⟨g13, h14, hf⟩ := hf
    refine V.putX (pc := 37) C kX6 (k := 1) (by decide) wd_34 rfl rfl rfl h14 dX6_append_37 ?_
    refine V.sub (L' := [(0, .ref v0), (1, .int v1), (2, .int v2)]) [0, 1, 2] rfl ?_
    exact bX6_append_40 C ih hf
def fX6_append (g : PH) (a0 : Nat) (a1 : Int32) : Option (Unit × PH) :=
  okb (isO g a0 6) (fX6_append_3 FUEL g a0 a1 (24 : Int32))
theorem oX6_append {g : PH} {a0 : Nat} {a1 : Int32} {q : (Unit × PH)} (h : fX6_append g a0 a1 = some q) : isO g a0 6 = true := by unfold fX6_append at h; exact (okb_some h).1
theorem hyX6_append : hMet yX6_append RX6 cX6_append 3 none 1 := ⟨wd_232, wd_230, wd_231, wd_2, rfl, by decide +kernel, by decide +kernel, by decide +kernel⟩
set_option maxHeartbeats 4000000 in
set_option maxRecDepth 100000 in
theorem mX6_append (l : Launch) (E : HE) (sz : Nat) {g g' : PH} {a0 : Nat} {a1 : Int32} {r : Unit} (hf : fX6_append g a0 a1 = some (r, g')) : hM l E yX6_append cX6_append 3 none 0 0 0 0 sz g [.ref a0, .int a1] none g' := by
  refine hM.of (by decide) (Nat.le_of_ble_eq_true rfl) (fun K hl C hin hsz => ?_)
  subst hl
  subst hsz
  have C : VC K E 3 cX6_append RX6 none := C
  unfold fX6_append at hf
  replace hf := okb_some hf
  obtain ⟨ho, hf⟩ := hf
  refine V.start (L' := [(0, .ref a0), (1, .int a1)]) rfl ?_
  refine V.bipush (pc := 0) C dX6_append_0 (v := (24 : Int32)) (by decide) ?_
  refine V.istore_n (pc := 2) (L' := [(2, .int (24 : Int32)), (0, .ref a0), (1, .int a1)]) C dX6_append_2 (by decide) rfl ?_
  refine V.sub (L' := [(0, .ref a0), (1, .int a1), (2, .int (24 : Int32))]) [1, 2, 0] rfl ?_
  exact bX6_append_3 C  _ _ _ _ _ hf
