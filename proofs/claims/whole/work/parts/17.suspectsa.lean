theorem dX5_init_0 : decode cX5_init 0 = .ok (.aload_n 0, 1) := by decide +kernel
theorem dX5_init_1 : decode cX5_init 1 = .ok (.invokespecial 3, 3) := by decide +kernel
theorem dX5_init_4 : decode cX5_init 4 = .ok (.aload_n 0, 1) := by decide +kernel
theorem dX5_init_5 : decode cX5_init 5 = .ok (.iconst 0, 1) := by decide +kernel
theorem dX5_init_6 : decode cX5_init 6 = .ok (.putfield 9, 3) := by decide +kernel
theorem dX5_init_9 : decode cX5_init 9 = .ok (.aload_n 0, 1) := by decide +kernel
theorem dX5_init_10 : decode cX5_init 10 = .ok (.iconst 0, 1) := by decide +kernel
theorem dX5_init_11 : decode cX5_init 11 = .ok (.putfield 15, 3) := by decide +kernel
theorem dX5_init_14 : decode cX5_init 14 = .ok (.aload_n 0, 1) := by decide +kernel
theorem dX5_init_15 : decode cX5_init 15 = .ok (.sipush 240, 3) := by decide +kernel
theorem dX5_init_18 : decode cX5_init 18 = .ok (.newarray .int, 2) := by decide +kernel
theorem dX5_init_20 : decode cX5_init 20 = .ok (.putfield 18, 3) := by decide +kernel
theorem dX5_init_23 : decode cX5_init 23 = .ok (.aload_n 0, 1) := by decide +kernel
theorem dX5_init_24 : decode cX5_init 24 = .ok (.sipush 240, 3) := by decide +kernel
theorem dX5_init_27 : decode cX5_init 27 = .ok (.newarray .int, 2) := by decide +kernel
theorem dX5_init_29 : decode cX5_init 29 = .ok (.putfield 22, 3) := by decide +kernel
theorem dX5_init_32 : decode cX5_init 32 = .ok (.aload_n 0, 1) := by decide +kernel
theorem dX5_init_33 : decode cX5_init 33 = .ok (.sipush 240, 3) := by decide +kernel
theorem dX5_init_36 : decode cX5_init 36 = .ok (.newarray .int, 2) := by decide +kernel
theorem dX5_init_38 : decode cX5_init 38 = .ok (.putfield 25, 3) := by decide +kernel
theorem dX5_init_41 : decode cX5_init 41 = .ok (.aload_n 0, 1) := by decide +kernel
theorem dX5_init_42 : decode cX5_init 42 = .ok (.sipush 1200, 3) := by decide +kernel
theorem dX5_init_45 : decode cX5_init 45 = .ok (.newarray .long, 2) := by decide +kernel
theorem dX5_init_47 : decode cX5_init 47 = .ok (.putfield 28, 3) := by decide +kernel
theorem dX5_init_50 : decode cX5_init 50 = .ok (.return_, 1) := by decide +kernel
def fX5_init (sz : Nat) (g : PH) (a0 : Nat) : Option (Unit × PH × Nat × Nat) :=
  (putV g a0 5 0 (.int (0 : Int32))).bind fun g1 =>
  ((putV g1 a0 5 1 (.int (0 : Int32))).bind fun g3 =>
  (bmp 1 240 ((putV (hup g3 sz (.inl (0, 240, .inl (fun _ => 0)))) a0 5 2 (.ref sz)).bind fun g10 =>
  (bmp 1 240 ((putV (hup g10 (sz + 1) (.inl (0, 240, .inl (fun _ => 0)))) a0 5 3 (.ref (sz + 1))).bind fun g17 =>
  (bmp 1 240 ((putV (hup g17 ((sz + 1) + 1) (.inl (0, 240, .inl (fun _ => 0)))) a0 5 4 (.ref ((sz + 1) + 1))).bind fun g24 =>
  (bmp 1 1200 ((putV (hup g24 (((sz + 1) + 1) + 1) (.inl (2, 1200, .inr (.inl (fun _ => 0))))) a0 5 5 (.ref (((sz + 1) + 1) + 1))).bind fun g31 =>
  (some ((), g31, 0, 0)))))))))))
theorem hyX5_init : hMetI yX5_init cX5_init 1 0 := ⟨wd_941, wd_940, wd_18, rfl, by decide +kernel, by decide +kernel, by decide +kernel⟩
set_option maxHeartbeats 4000000 in
set_option maxRecDepth 100000 in
theorem mX5_init (l : Launch) (E : HE) (sz : Nat) {g g' : PH} {a0 : Nat} {r : Unit} {mc ms : Nat} (hf : fX5_init sz g a0 = some (r, g', mc, ms)) : hM l E yX5_init cX5_init 1 none 1 20 mc ms sz g [.ref a0] none g' := by
  refine hM.of (by decide) (Nat.le_of_ble_eq_true rfl) (fun K hl C hin hsz => ?_)
  subst hl
  subst hsz
  have C : VC K E 1 cX5_init RX5 none := C
  have hin := hin rfl
  unfold fX5_init at hf
  have hkS : K.2.2.2.1.heap.size = kS K := rfl
  have e1 : 0 + mc = mc := Nat.zero_add _
  have e2 : 0 + ms = ms := Nat.zero_add _
  have e3 : kS K = kS K + 0 := rfl
  refine V.start (L' := [(0, .ref a0)]) rfl ?_
  refine V.aload_n (pc := 0) C dX5_init_0 0 rfl ?_
  refine V.objInit (pc := 1) C wd_942 wd_25 wd_26 (Nat.le_of_ble_eq_true rfl) ⟨Nat.le_of_ble_eq_true rfl, Nat.le_of_ble_eq_true rfl⟩ dX5_init_1 ?_
  refine V.aload_n (pc := 4) C dX5_init_4 0 rfl ?_
  refine V.iconst (pc := 5) C dX5_init_5 (v := (0 : Int32)) (by decide) ?_
  replace hf := ob_some hf
  obtain ⟨g1, h2, hf⟩ := hf
  refine V.putX (pc := 6) C kX5 (k := 0) (by decide) wd_943 rfl rfl rfl h2 dX5_init_6 ?_
  refine V.aload_n (pc := 9) C dX5_init_9 0 rfl ?_
  refine V.iconst (pc := 10) C dX5_init_10 (v := (0 : Int32)) (by decide) ?_
  replace hf := ob_some hf
  obtain ⟨g3, h4, hf⟩ := hf
  refine V.putX (pc := 11) C kX5 (k := 1) (by decide) wd_945 rfl rfl rfl h4 dX5_init_11 ?_
  refine V.aload_n (pc := 14) C dX5_init_14 0 rfl ?_
  refine V.sipush (pc := 15) C dX5_init_15 (v := (240 : Int32)) (by decide) ?_
  replace hf := bmp_some hf
  obtain ⟨b5, b6, hf, h7, h8⟩ := hf
  refine V.newI (pc := 18) (M := 240) C wd_106 (by decide) (by decide) (by decide) (by show _ ≤ mc; omega) (by show _ ≤ ms; omega) dX5_init_18 ?_
  replace hf := ob_some hf
  obtain ⟨g10, h11, hf⟩ := hf
  refine V.putF (pc := 20) C kX5 (k := 2) (by decide) wd_947 rfl hin rfl rfl rfl h11 dX5_init_20 ?_
  refine V.aload_n (pc := 23) C dX5_init_23 0 rfl ?_
  refine V.sipush (pc := 24) C dX5_init_24 (v := (240 : Int32)) (by decide) ?_
  replace hf := bmp_some hf
  obtain ⟨b12, b13, hf, h14, h15⟩ := hf
  refine V.newI (pc := 27) (M := 240) C wd_106 (by decide) (by decide) (by decide) (by show _ ≤ mc; omega) (by show _ ≤ ms; omega) dX5_init_27 ?_
  replace hf := ob_some hf
  obtain ⟨g17, h18, hf⟩ := hf
  refine V.putF (pc := 29) C kX5 (k := 3) (by decide) wd_948 rfl hin rfl rfl rfl h18 dX5_init_29 ?_
  refine V.aload_n (pc := 32) C dX5_init_32 0 rfl ?_
  refine V.sipush (pc := 33) C dX5_init_33 (v := (240 : Int32)) (by decide) ?_
  replace hf := bmp_some hf
  obtain ⟨b19, b20, hf, h21, h22⟩ := hf
  refine V.newI (pc := 36) (M := 240) C wd_106 (by decide) (by decide) (by decide) (by show _ ≤ mc; omega) (by show _ ≤ ms; omega) dX5_init_36 ?_
  replace hf := ob_some hf
  obtain ⟨g24, h25, hf⟩ := hf
  refine V.putF (pc := 38) C kX5 (k := 4) (by decide) wd_949 rfl hin rfl rfl rfl h25 dX5_init_38 ?_
  refine V.aload_n (pc := 41) C dX5_init_41 0 rfl ?_
  refine V.sipush (pc := 42) C dX5_init_42 (v := (1200 : Int32)) (by decide) ?_
  replace hf := bmp_some hf
  obtain ⟨b26, b27, hf, h28, h29⟩ := hf
  refine V.newJ (pc := 45) (M := 1200) C wd_742 (by decide) (by decide) (by decide) (by show _ ≤ mc; omega) (by show _ ≤ ms; omega) dX5_init_45 ?_
  replace hf := ob_some hf
  obtain ⟨g31, h32, hf⟩ := hf
  refine V.putF (pc := 47) C kX5 (k := 5) (by decide) wd_950 rfl hin rfl rfl rfl h32 dX5_init_47 ?_
  obtain ⟨f1, f2, f3, f4⟩ := fin4 hf
  clear hf
  subst f1
  subst f2
  refine V.cast (c := mc) (s := ms) (by omega) (by omega) ?_
  exact V.vret (pc := 50) C (by omega) dX5_init_50
theorem dX5_add_0 : decode cX5_add 0 = .ok (.aload_n 0, 1) := by decide +kernel
theorem dX5_add_1 : decode cX5_add 1 = .ok (.getfield 9, 3) := by decide +kernel
theorem dX5_add_4 : decode cX5_add 4 = .ok (.sipush 240, 3) := by decide +kernel
theorem dX5_add_7 : decode cX5_add 7 = .ok (.if_icmp .ge 28, 3) := by decide +kernel
theorem dX5_add_10 : decode cX5_add 10 = .ok (.aload_n 0, 1) := by decide +kernel
theorem dX5_add_11 : decode cX5_add 11 = .ok (.getfield 18, 3) := by decide +kernel
theorem dX5_add_14 : decode cX5_add 14 = .ok (.aload_n 0, 1) := by decide +kernel
theorem dX5_add_15 : decode cX5_add 15 = .ok (.getfield 9, 3) := by decide +kernel
theorem dX5_add_18 : decode cX5_add 18 = .ok (.bipush 32, 2) := by decide +kernel
theorem dX5_add_20 : decode cX5_add 20 = .ok (.iload_n 1, 1) := by decide +kernel
theorem dX5_add_21 : decode cX5_add 21 = .ok (.imul, 1) := by decide +kernel
theorem dX5_add_22 : decode cX5_add 22 = .ok (.iload_n 2, 1) := by decide +kernel
theorem dX5_add_23 : decode cX5_add 23 = .ok (.iadd, 1) := by decide +kernel
theorem dX5_add_24 : decode cX5_add 24 = .ok (.iastore, 1) := by decide +kernel
theorem dX5_add_25 : decode cX5_add 25 = .ok (.aload_n 0, 1) := by decide +kernel
theorem dX5_add_26 : decode cX5_add 26 = .ok (.dup, 1) := by decide +kernel
theorem dX5_add_27 : decode cX5_add 27 = .ok (.getfield 9, 3) := by decide +kernel
theorem dX5_add_30 : decode cX5_add 30 = .ok (.iconst 1, 1) := by decide +kernel
theorem dX5_add_31 : decode cX5_add 31 = .ok (.iadd, 1) := by decide +kernel
theorem dX5_add_32 : decode cX5_add 32 = .ok (.putfield 9, 3) := by decide +kernel
theorem dX5_add_35 : decode cX5_add 35 = .ok (.return_, 1) := by decide +kernel
def fX5_add (g : PH) (a0 : Nat) (a1 : Int32) (a2 : Int32) : Option (Unit × PH) :=
  okb (isO g a0 5) ((getI g a0 5 0).bind fun x1 =>
  (if (240 : Int32) ≤ x1 then (some ((), g)) else
  ((getR g a0 5 2).bind fun p4 =>
  ((getI g a0 5 0).bind fun x6 =>
  ((stI g p4 0 x6 (((32 : Int32) * a1) + a2)).bind fun g8 =>
  ((getI g8 a0 5 0).bind fun x10 =>
  ((putV g8 a0 5 0 (.int (x10 + (1 : Int32)))).bind fun g12 =>
  (some ((), g12)))))))))
theorem oX5_add {g : PH} {a0 : Nat} {a1 : Int32} {a2 : Int32} {q : (Unit × PH)} (h : fX5_add g a0 a1 a2 = some q) : isO g a0 5 = true := by unfold fX5_add at h; exact (okb_some h).1
theorem hyX5_add : hMet yX5_add RX5 cX5_add 3 none 2 := ⟨wd_984, wd_982, wd_983, wd_18, rfl, by decide +kernel, by decide +kernel, by decide +kernel⟩
set_option maxHeartbeats 4000000 in
set_option maxRecDepth 100000 in
theorem mX5_add (l : Launch) (E : HE) (sz : Nat) {g g' : PH} {a0 : Nat} {a1 : Int32} {a2 : Int32} {r : Unit} (hf : fX5_add g a0 a1 a2 = some (r, g')) : hM l E yX5_add cX5_add 3 none 0 0 0 0 sz g [.ref a0, .int a1, .int a2] none g' := by
  refine hM.of (by decide) (Nat.le_of_ble_eq_true rfl) (fun K hl C hin hsz => ?_)
  subst hl
  subst hsz
  have C : VC K E 3 cX5_add RX5 none := C
  unfold fX5_add at hf
  replace hf := okb_some hf
  obtain ⟨ho, hf⟩ := hf
  refine V.start (L' := [(0, .ref a0), (1, .int a1), (2, .int a2)]) rfl ?_
  refine V.aload_n (pc := 0) C dX5_add_0 0 rfl ?_
  replace hf := ob_some hf
  obtain ⟨x1, h2, hf⟩ := hf
  refine V.getI (pc := 1) C kX5 (k := 0) (by decide) wd_943 h2 dX5_add_1 ?_
  refine V.sipush (pc := 4) C dX5_add_4 (v := (240 : Int32)) (by decide) ?_
  refine V.icmp_ge (pc := 7) (t := 35) C dX5_add_7 (by decide) (fun c3 => ?_) (fun c3 => ?_)
  · replace hf := ite_t c3 hf
    obtain ⟨f1, f2⟩ := fin2 hf
    clear hf
    subst f1
    subst f2
    exact V.vret (pc := 35) C rfl dX5_add_35
  replace hf := ite_f c3 hf
  refine V.aload_n (pc := 10) C dX5_add_10 0 rfl ?_
  replace hf := ob_some hf
  obtain ⟨p4, h5, hf⟩ := hf
  refine V.getR (pc := 11) C kX5 (k := 2) (by decide) wd_947 h5 dX5_add_11 ?_
  refine V.aload_n (pc := 14) C dX5_add_14 0 rfl ?_
  replace hf := ob_some hf
  obtain ⟨x6, h7, hf⟩ := hf
  refine V.getI (pc := 15) C kX5 (k := 0) (by decide) wd_943 h7 dX5_add_15 ?_
  refine V.bipush (pc := 18) C dX5_add_18 (v := (32 : Int32)) (by decide) ?_
  refine V.iload_n (pc := 20) C dX5_add_20 1 rfl ?_
  refine V.imul (pc := 21) C dX5_add_21 ?_
  refine V.iload_n (pc := 22) C dX5_add_22 2 rfl ?_
  refine V.iadd (pc := 23) C dX5_add_23 ?_
  replace hf := ob_some hf
  obtain ⟨g8, h9, hf⟩ := hf
  refine V.iast (pc := 24) C h9 dX5_add_24 ?_
  refine V.aload_n (pc := 25) C dX5_add_25 0 rfl ?_
  refine V.dup (pc := 26) C dX5_add_26 rfl ?_
  replace hf := ob_some hf
  obtain ⟨x10, h11, hf⟩ := hf
  refine V.getI (pc := 27) C kX5 (k := 0) (by decide) wd_943 h11 dX5_add_27 ?_
  refine V.iconst (pc := 30) C dX5_add_30 (v := (1 : Int32)) (by decide) ?_
  refine V.iadd (pc := 31) C dX5_add_31 ?_
  replace hf := ob_some hf
  obtain ⟨g12, h13, hf⟩ := hf
  refine V.putX (pc := 32) C kX5 (k := 0) (by decide) wd_943 rfl rfl rfl h13 dX5_add_32 ?_
  obtain ⟨f1, f2⟩ := fin2 hf
  clear hf
  subst f1
  subst f2
  exact V.vret (pc := 35) C rfl dX5_add_35
theorem dX5_kindOf_0 : decode cX5_kindOf 0 = .ok (.iload_n 1, 1) := by decide +kernel
theorem dX5_kindOf_1 : decode cX5_kindOf 1 = .ok (.ifCond .lt 29, 3) := by decide +kernel
theorem dX5_kindOf_4 : decode cX5_kindOf 4 = .ok (.iload_n 1, 1) := by decide +kernel
theorem dX5_kindOf_5 : decode cX5_kindOf 5 = .ok (.aload_n 0, 1) := by decide +kernel
theorem dX5_kindOf_6 : decode cX5_kindOf 6 = .ok (.getfield 9, 3) := by decide +kernel
theorem dX5_kindOf_9 : decode cX5_kindOf 9 = .ok (.if_icmp .ge 21, 3) := by decide +kernel
theorem dX5_kindOf_12 : decode cX5_kindOf 12 = .ok (.iload_n 1, 1) := by decide +kernel
theorem dX5_kindOf_13 : decode cX5_kindOf 13 = .ok (.sipush 240, 3) := by decide +kernel
theorem dX5_kindOf_16 : decode cX5_kindOf 16 = .ok (.if_icmp .ge 14, 3) := by decide +kernel
theorem dX5_kindOf_19 : decode cX5_kindOf 19 = .ok (.aload_n 0, 1) := by decide +kernel
theorem dX5_kindOf_20 : decode cX5_kindOf 20 = .ok (.getfield 18, 3) := by decide +kernel
theorem dX5_kindOf_23 : decode cX5_kindOf 23 = .ok (.iload_n 1, 1) := by decide +kernel
theorem dX5_kindOf_24 : decode cX5_kindOf 24 = .ok (.iaload, 1) := by decide +kernel
theorem dX5_kindOf_25 : decode cX5_kindOf 25 = .ok (.iconst 5, 1) := by decide +kernel
theorem dX5_kindOf_26 : decode cX5_kindOf 26 = .ok (.ishr, 1) := by decide +kernel
theorem dX5_kindOf_27 : decode cX5_kindOf 27 = .ok (.goto 4, 3) := by decide +kernel
theorem dX5_kindOf_30 : decode cX5_kindOf 30 = .ok (.iconst (-1), 1) := by decide +kernel
theorem dX5_kindOf_31 : decode cX5_kindOf 31 = .ok (.ireturn, 1) := by decide +kernel
def fX5_kindOf (g : PH) (a0 : Nat) (a1 : Int32) : Option (Int32 × PH) :=
  okb (isO g a0 5) (if a1 < 0 then (some ((-1 : Int32), g)) else
  ((getI g a0 5 0).bind fun x2 =>
  (if x2 ≤ a1 then (some ((-1 : Int32), g)) else
  (if (240 : Int32) ≤ a1 then (some ((-1 : Int32), g)) else
  ((getR g a0 5 2).bind fun p6 =>
  ((ldI g p6 0 a1).bind fun x8 =>
  (some ((x8 >>> ((5 : Int32) &&& 31)), g))))))))
theorem oX5_kindOf {g : PH} {a0 : Nat} {a1 : Int32} {q : (Int32 × PH)} (h : fX5_kindOf g a0 a1 = some q) : isO g a0 5 = true := by unfold fX5_kindOf at h; exact (okb_some h).1
theorem hyX5_kindOf : hMet yX5_kindOf RX5 cX5_kindOf 2 (some .int) 1 := ⟨wd_988, wd_986, wd_987, wd_18, rfl, by decide +kernel, by decide +kernel, by decide +kernel⟩
set_option maxHeartbeats 4000000 in
set_option maxRecDepth 100000 in
theorem mX5_kindOf (l : Launch) (E : HE) (sz : Nat) {g g' : PH} {a0 : Nat} {a1 : Int32} {r : Int32} (hf : fX5_kindOf g a0 a1 = some (r, g')) : hM l E yX5_kindOf cX5_kindOf 2 (some .int) 0 0 0 0 sz g [.ref a0, .int a1] (some (.int r)) g' := by
  refine hM.of (by decide) (Nat.le_of_ble_eq_true rfl) (fun K hl C hin hsz => ?_)
  subst hl
  subst hsz
  have C : VC K E 2 cX5_kindOf RX5 (some .int) := C
  unfold fX5_kindOf at hf
  replace hf := okb_some hf
  obtain ⟨ho, hf⟩ := hf
  refine V.start (L' := [(0, .ref a0), (1, .int a1)]) rfl ?_
  refine V.iload_n (pc := 0) C dX5_kindOf_0 1 rfl ?_
  refine V.if_lt (pc := 1) (t := 30) C dX5_kindOf_1 (by decide) (fun c1 => ?_) (fun c1 => ?_)
  · replace hf := ite_t c1 hf
    refine V.iconst (pc := 30) C dX5_kindOf_30 (v := (-1 : Int32)) (by decide) ?_
    obtain ⟨f1, f2⟩ := fin2 hf
    clear hf
    subst f1
    subst f2
    exact V.iret (pc := 31) C rfl dX5_kindOf_31
  replace hf := ite_f c1 hf
  refine V.iload_n (pc := 4) C dX5_kindOf_4 1 rfl ?_
  refine V.aload_n (pc := 5) C dX5_kindOf_5 0 rfl ?_
  replace hf := ob_some hf
  obtain ⟨x2, h3, hf⟩ := hf
  refine V.getI (pc := 6) C kX5 (k := 0) (by decide) wd_943 h3 dX5_kindOf_6 ?_
  refine V.icmp_ge (pc := 9) (t := 30) C dX5_kindOf_9 (by decide) (fun c4 => ?_) (fun c4 => ?_)
  · replace hf := ite_t c4 hf
    refine V.iconst (pc := 30) C dX5_kindOf_30 (v := (-1 : Int32)) (by decide) ?_
    obtain ⟨f1, f2⟩ := fin2 hf
    clear hf
    subst f1
    subst f2
    exact V.iret (pc := 31) C rfl dX5_kindOf_31
  replace hf := ite_f c4 hf
  refine V.iload_n (pc := 12) C dX5_kindOf_12 1 rfl ?_
  refine V.sipush (pc := 13) C dX5_kindOf_13 (v := (240 : Int32)) (by decide) ?_
  refine V.icmp_ge (pc := 16) (t := 30) C dX5_kindOf_16 (by decide) (fun c5 => ?_) (fun c5 => ?_)
  · replace hf := ite_t c5 hf
    refine V.iconst (pc := 30) C dX5_kindOf_30 (v := (-1 : Int32)) (by decide) ?_
    obtain ⟨f1, f2⟩ := fin2 hf
    clear hf
    subst f1
    subst f2
    exact V.iret (pc := 31) C rfl dX5_kindOf_31
  replace hf := ite_f c5 hf
  refine V.aload_n (pc := 19) C dX5_kindOf_19 0 rfl ?_
  replace hf := ob_some hf
  obtain ⟨p6, h7, hf⟩ := hf
  refine V.getR (pc := 20) C kX5 (k := 2) (by decide) wd_947 h7 dX5_kindOf_20 ?_
  refine V.iload_n (pc := 23) C dX5_kindOf_23 1 rfl ?_
  replace hf := ob_some hf
  obtain ⟨x8, h9, hf⟩ := hf
  refine V.iald (pc := 24) C h9 dX5_kindOf_24 ?_
  refine V.iconst (pc := 25) C dX5_kindOf_25 (v := (5 : Int32)) (by decide) ?_
  refine V.ishr (pc := 26) C dX5_kindOf_26 ?_
  refine V.goto (pc := 27) (t := 31) C dX5_kindOf_27 (by decide) ?_
  obtain ⟨f1, f2⟩ := fin2 hf
  clear hf
  subst f1
  subst f2
  exact V.iret (pc := 31) C rfl dX5_kindOf_31
theorem dX5_placementOf_0 : decode cX5_placementOf 0 = .ok (.iload_n 1, 1) := by decide +kernel
theorem dX5_placementOf_1 : decode cX5_placementOf 1 = .ok (.ifCond .lt 30, 3) := by decide +kernel
theorem dX5_placementOf_4 : decode cX5_placementOf 4 = .ok (.iload_n 1, 1) := by decide +kernel
theorem dX5_placementOf_5 : decode cX5_placementOf 5 = .ok (.aload_n 0, 1) := by decide +kernel
theorem dX5_placementOf_6 : decode cX5_placementOf 6 = .ok (.getfield 9, 3) := by decide +kernel
theorem dX5_placementOf_9 : decode cX5_placementOf 9 = .ok (.if_icmp .ge 22, 3) := by decide +kernel
theorem dX5_placementOf_12 : decode cX5_placementOf 12 = .ok (.iload_n 1, 1) := by decide +kernel
theorem dX5_placementOf_13 : decode cX5_placementOf 13 = .ok (.sipush 240, 3) := by decide +kernel
theorem dX5_placementOf_16 : decode cX5_placementOf 16 = .ok (.if_icmp .ge 15, 3) := by decide +kernel
theorem dX5_placementOf_19 : decode cX5_placementOf 19 = .ok (.aload_n 0, 1) := by decide +kernel
theorem dX5_placementOf_20 : decode cX5_placementOf 20 = .ok (.getfield 18, 3) := by decide +kernel
theorem dX5_placementOf_23 : decode cX5_placementOf 23 = .ok (.iload_n 1, 1) := by decide +kernel
theorem dX5_placementOf_24 : decode cX5_placementOf 24 = .ok (.iaload, 1) := by decide +kernel
theorem dX5_placementOf_25 : decode cX5_placementOf 25 = .ok (.bipush 31, 2) := by decide +kernel
theorem dX5_placementOf_27 : decode cX5_placementOf 27 = .ok (.iand, 1) := by decide +kernel
theorem dX5_placementOf_28 : decode cX5_placementOf 28 = .ok (.goto 4, 3) := by decide +kernel
theorem dX5_placementOf_31 : decode cX5_placementOf 31 = .ok (.iconst 0, 1) := by decide +kernel
theorem dX5_placementOf_32 : decode cX5_placementOf 32 = .ok (.ireturn, 1) := by decide +kernel
def fX5_placementOf (g : PH) (a0 : Nat) (a1 : Int32) : Option (Int32 × PH) :=
  okb (isO g a0 5) (if a1 < 0 then (some ((0 : Int32), g)) else
  ((getI g a0 5 0).bind fun x2 =>
  (if x2 ≤ a1 then (some ((0 : Int32), g)) else
  (if (240 : Int32) ≤ a1 then (some ((0 : Int32), g)) else
  ((getR g a0 5 2).bind fun p6 =>
  ((ldI g p6 0 a1).bind fun x8 =>
  (some ((x8 &&& (31 : Int32)), g))))))))
theorem oX5_placementOf {g : PH} {a0 : Nat} {a1 : Int32} {q : (Int32 × PH)} (h : fX5_placementOf g a0 a1 = some q) : isO g a0 5 = true := by unfold fX5_placementOf at h; exact (okb_some h).1
theorem hyX5_placementOf : hMet yX5_placementOf RX5 cX5_placementOf 2 (some .int) 1 := ⟨wd_992, wd_990, wd_991, wd_18, rfl, by decide +kernel, by decide +kernel, by decide +kernel⟩
set_option maxHeartbeats 4000000 in
set_option maxRecDepth 100000 in
theorem mX5_placementOf (l : Launch) (E : HE) (sz : Nat) {g g' : PH} {a0 : Nat} {a1 : Int32} {r : Int32} (hf : fX5_placementOf g a0 a1 = some (r, g')) : hM l E yX5_placementOf cX5_placementOf 2 (some .int) 0 0 0 0 sz g [.ref a0, .int a1] (some (.int r)) g' := by
  refine hM.of (by decide) (Nat.le_of_ble_eq_true rfl) (fun K hl C hin hsz => ?_)
  subst hl
  subst hsz
  have C : VC K E 2 cX5_placementOf RX5 (some .int) := C
  unfold fX5_placementOf at hf
  replace hf := okb_some hf
  obtain ⟨ho, hf⟩ := hf
  refine V.start (L' := [(0, .ref a0), (1, .int a1)]) rfl ?_
  refine V.iload_n (pc := 0) C dX5_placementOf_0 1 rfl ?_
  refine V.if_lt (pc := 1) (t := 31) C dX5_placementOf_1 (by decide) (fun c1 => ?_) (fun c1 => ?_)
  · replace hf := ite_t c1 hf
    refine V.iconst (pc := 31) C dX5_placementOf_31 (v := (0 : Int32)) (by decide) ?_
    obtain ⟨f1, f2⟩ := fin2 hf
    clear hf
    subst f1
    subst f2
    exact V.iret (pc := 32) C rfl dX5_placementOf_32
  replace hf := ite_f c1 hf
  refine V.iload_n (pc := 4) C dX5_placementOf_4 1 rfl ?_
  refine V.aload_n (pc := 5) C dX5_placementOf_5 0 rfl ?_
  replace hf := ob_some hf
  obtain ⟨x2, h3, hf⟩ := hf
  refine V.getI (pc := 6) C kX5 (k := 0) (by decide) wd_943 h3 dX5_placementOf_6 ?_
  refine V.icmp_ge (pc := 9) (t := 31) C dX5_placementOf_9 (by decide) (fun c4 => ?_) (fun c4 => ?_)
  · replace hf := ite_t c4 hf
    refine V.iconst (pc := 31) C dX5_placementOf_31 (v := (0 : Int32)) (by decide) ?_
    obtain ⟨f1, f2⟩ := fin2 hf
    clear hf
    subst f1
    subst f2
    exact V.iret (pc := 32) C rfl dX5_placementOf_32
  replace hf := ite_f c4 hf
  refine V.iload_n (pc := 12) C dX5_placementOf_12 1 rfl ?_
  refine V.sipush (pc := 13) C dX5_placementOf_13 (v := (240 : Int32)) (by decide) ?_
  refine V.icmp_ge (pc := 16) (t := 31) C dX5_placementOf_16 (by decide) (fun c5 => ?_) (fun c5 => ?_)
  · replace hf := ite_t c5 hf
    refine V.iconst (pc := 31) C dX5_placementOf_31 (v := (0 : Int32)) (by decide) ?_
    obtain ⟨f1, f2⟩ := fin2 hf
    clear hf
    subst f1
    subst f2
    exact V.iret (pc := 32) C rfl dX5_placementOf_32
  replace hf := ite_f c5 hf
  refine V.aload_n (pc := 19) C dX5_placementOf_19 0 rfl ?_
  replace hf := ob_some hf
  obtain ⟨p6, h7, hf⟩ := hf
  refine V.getR (pc := 20) C kX5 (k := 2) (by decide) wd_947 h7 dX5_placementOf_20 ?_
  refine V.iload_n (pc := 23) C dX5_placementOf_23 1 rfl ?_
  replace hf := ob_some hf
  obtain ⟨x8, h9, hf⟩ := hf
  refine V.iald (pc := 24) C h9 dX5_placementOf_24 ?_
  refine V.bipush (pc := 25) C dX5_placementOf_25 (v := (31 : Int32)) (by decide) ?_
  refine V.iand (pc := 27) C dX5_placementOf_27 ?_
  refine V.goto (pc := 28) (t := 32) C dX5_placementOf_28 (by decide) ?_
  obtain ⟨f1, f2⟩ := fin2 hf
  clear hf
  subst f1
  subst f2
  exact V.iret (pc := 32) C rfl dX5_placementOf_32
theorem dX5_describe_0 : decode cX5_describe 0 = .ok (.iload_n 2, 1) := by decide +kernel
theorem dX5_describe_1 : decode cX5_describe 1 = .ok (.iconst 5, 1) := by decide +kernel
theorem dX5_describe_2 : decode cX5_describe 2 = .ok (.imul, 1) := by decide +kernel
theorem dX5_describe_3 : decode cX5_describe 3 = .ok (.istore_n 3, 1) := by decide +kernel
theorem dX5_describe_4 : decode cX5_describe 4 = .ok (.iconst 0, 1) := by decide +kernel
theorem dX5_describe_5 : decode cX5_describe 5 = .ok (.istore 4, 2) := by decide +kernel
theorem dX5_describe_7 : decode cX5_describe 7 = .ok (.iload 4, 2) := by decide +kernel
theorem dX5_describe_9 : decode cX5_describe 9 = .ok (.iconst 5, 1) := by decide +kernel
theorem dX5_describe_10 : decode cX5_describe 10 = .ok (.if_icmp .ge 19, 3) := by decide +kernel
theorem dX5_describe_13 : decode cX5_describe 13 = .ok (.aload_n 0, 1) := by decide +kernel
theorem dX5_describe_14 : decode cX5_describe 14 = .ok (.getfield 28, 3) := by decide +kernel
theorem dX5_describe_17 : decode cX5_describe 17 = .ok (.iload_n 3, 1) := by decide +kernel
theorem dX5_describe_18 : decode cX5_describe 18 = .ok (.iload 4, 2) := by decide +kernel
theorem dX5_describe_20 : decode cX5_describe 20 = .ok (.iadd, 1) := by decide +kernel
theorem dX5_describe_21 : decode cX5_describe 21 = .ok (.lconst 0, 1) := by decide +kernel
theorem dX5_describe_22 : decode cX5_describe 22 = .ok (.lastore, 1) := by decide +kernel
theorem dX5_describe_23 : decode cX5_describe 23 = .ok (.iinc 4 1, 3) := by decide +kernel
theorem dX5_describe_26 : decode cX5_describe 26 = .ok (.goto (-19), 3) := by decide +kernel
theorem dX5_describe_29 : decode cX5_describe 29 = .ok (.aload_n 0, 1) := by decide +kernel
theorem dX5_describe_30 : decode cX5_describe 30 = .ok (.getfield 25, 3) := by decide +kernel
theorem dX5_describe_33 : decode cX5_describe 33 = .ok (.iload_n 2, 1) := by decide +kernel
theorem dX5_describe_34 : decode cX5_describe 34 = .ok (.aload_n 1, 1) := by decide +kernel
theorem dX5_describe_35 : decode cX5_describe 35 = .ok (.getfield 40, 3) := by decide +kernel
theorem dX5_describe_38 : decode cX5_describe 38 = .ok (.iastore, 1) := by decide +kernel
theorem dX5_describe_39 : decode cX5_describe 39 = .ok (.bipush 60, 2) := by decide +kernel
theorem dX5_describe_41 : decode cX5_describe 41 = .ok (.aload_n 1, 1) := by decide +kernel
theorem dX5_describe_42 : decode cX5_describe 42 = .ok (.getfield 40, 3) := by decide +kernel
theorem dX5_describe_45 : decode cX5_describe 45 = .ok (.invokestatic 45, 3) := by decide +kernel
theorem dX5_describe_48 : decode cX5_describe 48 = .ok (.istore 4, 2) := by decide +kernel
theorem dX5_describe_50 : decode cX5_describe 50 = .ok (.iconst 0, 1) := by decide +kernel
theorem dX5_describe_51 : decode cX5_describe 51 = .ok (.istore 5, 2) := by decide +kernel
theorem dX5_describe_53 : decode cX5_describe 53 = .ok (.iload 5, 2) := by decide +kernel
theorem dX5_describe_55 : decode cX5_describe 55 = .ok (.iload 4, 2) := by decide +kernel
theorem dX5_describe_57 : decode cX5_describe 57 = .ok (.if_icmp .ge 52, 3) := by decide +kernel
theorem dX5_describe_60 : decode cX5_describe 60 = .ok (.aload_n 1, 1) := by decide +kernel
theorem dX5_describe_61 : decode cX5_describe 61 = .ok (.iload 5, 2) := by decide +kernel
theorem dX5_describe_63 : decode cX5_describe 63 = .ok (.invokevirtual 51, 3) := by decide +kernel
theorem dX5_describe_66 : decode cX5_describe 66 = .ok (.istore 6, 2) := by decide +kernel
theorem dX5_describe_68 : decode cX5_describe 68 = .ok (.iload 6, 2) := by decide +kernel
theorem dX5_describe_70 : decode cX5_describe 70 = .ok (.ifCond .lt 33, 3) := by decide +kernel
theorem dX5_describe_73 : decode cX5_describe 73 = .ok (.iload 6, 2) := by decide +kernel
theorem dX5_describe_75 : decode cX5_describe 75 = .ok (.sipush 320, 3) := by decide +kernel
theorem dX5_describe_78 : decode cX5_describe 78 = .ok (.if_icmp .ge 25, 3) := by decide +kernel
theorem dX5_describe_81 : decode cX5_describe 81 = .ok (.aload_n 0, 1) := by decide +kernel
theorem dX5_describe_82 : decode cX5_describe 82 = .ok (.getfield 28, 3) := by decide +kernel
theorem dX5_describe_85 : decode cX5_describe 85 = .ok (.iload_n 3, 1) := by decide +kernel
theorem dX5_describe_86 : decode cX5_describe 86 = .ok (.iload 6, 2) := by decide +kernel
theorem dX5_describe_88 : decode cX5_describe 88 = .ok (.bipush 6, 2) := by decide +kernel
theorem dX5_describe_90 : decode cX5_describe 90 = .ok (.ishr, 1) := by decide +kernel
theorem dX5_describe_91 : decode cX5_describe 91 = .ok (.iadd, 1) := by decide +kernel
theorem dX5_describe_92 : decode cX5_describe 92 = .ok (.dup2, 1) := by decide +kernel
theorem dX5_describe_93 : decode cX5_describe 93 = .ok (.laload, 1) := by decide +kernel
theorem dX5_describe_94 : decode cX5_describe 94 = .ok (.lconst 1, 1) := by decide +kernel
theorem dX5_describe_95 : decode cX5_describe 95 = .ok (.iload 6, 2) := by decide +kernel
theorem dX5_describe_97 : decode cX5_describe 97 = .ok (.bipush 63, 2) := by decide +kernel
theorem dX5_describe_99 : decode cX5_describe 99 = .ok (.iand, 1) := by decide +kernel
theorem dX5_describe_100 : decode cX5_describe 100 = .ok (.lshl, 1) := by decide +kernel
theorem dX5_describe_101 : decode cX5_describe 101 = .ok (.lor, 1) := by decide +kernel
theorem dX5_describe_102 : decode cX5_describe 102 = .ok (.lastore, 1) := by decide +kernel
theorem dX5_describe_103 : decode cX5_describe 103 = .ok (.iinc 5 1, 3) := by decide +kernel
theorem dX5_describe_106 : decode cX5_describe 106 = .ok (.goto (-53), 3) := by decide +kernel
theorem dX5_describe_109 : decode cX5_describe 109 = .ok (.return_, 1) := by decide +kernel
def fX5_describe_103 (k53 : PH → Nat → Nat → Int32 → Int32 → Int32 → Option (Unit × PH)) (g : PH) (v0 : Nat) (v1 : Nat) (v3 : Int32) (v4 : Int32) (v5 : Int32) : Option (Unit × PH) :=
  k53 g v0 v1 v3 v4 (v5 + (1 : Int32))
set_option maxHeartbeats 4000000 in
set_option maxRecDepth 100000 in
theorem bX5_describe_103 {K : HK} {E : HE} {r : Unit} {g' : PH} {k53 : PH → Nat → Nat → Int32 → Int32 → Int32 → Option (Unit × PH)} (C : VC K E 7 cX5_describe RX5 none) (hk53 : ∀ (g : PH) (v0 : Nat) (v1 : Nat) (v3 : Int32) (v4 : Int32) (v5 : Int32), k53 g v0 v1 v3 v4 v5 = some (r, g') → V K E (hRm 1 21 0 0) 7 (hZ K E none g' 0 0) 0 0 (kS K) g 53 [(0, .ref v0), (1, .ref v1), (3, .int v3), (4, .int v4), (5, .int v5)] []) {g : PH} {v0 : Nat} {v1 : Nat} {v3 : Int32} {v4 : Int32} {v5 : Int32} (hf : fX5_describe_103 k53 g v0 v1 v3 v4 v5 = some (r, g')) : V K E (hRm 1 21 0 0) 7 (hZ K E none g' 0 0) 0 0 (kS K) g 103 [(0, .ref v0), (1, .ref v1), (3, .int v3), (4, .int v4), (5, .int v5)] [] := by
  unfold fX5_describe_103 at hf
  refine V.iinc (pc := 103) (v := (v5 + (1 : Int32))) (L' := [(5, .int (v5 + (1 : Int32))), (0, .ref v0), (1, .ref v1), (3, .int v3), (4, .int v4)]) C dX5_describe_103 4 rfl rfl (by decide) rfl ?_
  refine V.goto (pc := 106) (t := 53) C dX5_describe_106 (by decide) ?_
  refine V.sub (L' := [(0, .ref v0), (1, .ref v1), (3, .int v3), (4, .int v4), (5, .int (v5 + (1 : Int32)))]) [1, 2, 3, 4, 0] rfl ?_
  exact hk53 _ _ _ _ _ _ hf
def fX5_describe_53  : Nat → PH → Nat → Nat → Int32 → Int32 → Int32 → Option (Unit × PH)
  | 0, _, _, _, _, _, _ => none
  | n + 1, g, v0, v1, v3, v4, v5 =>
  if v4 ≤ v5 then (some ((), g)) else
  ((fX7_numberAt g v1 v5).bind fun q2 =>
  (if q2.1 < 0 then (fX5_describe_103 (fX5_describe_53 n) q2.2 v0 v1 v3 v4 v5) else
  (if (320 : Int32) ≤ q2.1 then (fX5_describe_103 (fX5_describe_53 n) q2.2 v0 v1 v3 v4 v5) else
  ((getR q2.2 v0 5 5).bind fun p6 =>
  ((ldL q2.2 p6 (v3 + (q2.1 >>> ((6 : Int32) &&& 31)))).bind fun x8 =>
  ((stL q2.2 p6 (v3 + (q2.1 >>> ((6 : Int32) &&& 31))) (x8 ||| ((1 : Int64) <<< ((q2.1 &&& (63 : Int32)).toInt64 &&& 63)))).bind fun g10 =>
  (fX5_describe_103 (fX5_describe_53 n) g10 v0 v1 v3 v4 v5)))))))
set_option maxHeartbeats 4000000 in
set_option maxRecDepth 100000 in
theorem bX5_describe_53 {K : HK} {E : HE} {r : Unit} {g' : PH}  (C : VC K E 7 cX5_describe RX5 none)  : ∀ (n : Nat) (g : PH) (v0 : Nat) (v1 : Nat) (v3 : Int32) (v4 : Int32) (v5 : Int32), fX5_describe_53  n g v0 v1 v3 v4 v5 = some (r, g') → V K E (hRm 1 21 0 0) 7 (hZ K E none g' 0 0) 0 0 (kS K) g 53 [(0, .ref v0), (1, .ref v1), (3, .int v3), (4, .int v4), (5, .int v5)] [] := by
  intro n
  induction n with
  | zero =>
    intro g v0 v1 v3 v4 v5 hf
    rw [fX5_describe_53] at hf
    cases hf
  | succ n ih =>
    intro g v0 v1 v3 v4 v5 hf
    rw [fX5_describe_53] at hf
    refine V.iload (pc := 53) C dX5_describe_53 4 rfl ?_
    refine V.iload (pc := 55) C dX5_describe_55 3 rfl ?_
    refine V.icmp_ge (pc := 57) (t := 109) C dX5_describe_57 (by decide) (fun c1 => ?_) (fun c1 => ?_)
    · replace hf := ite_t c1 hf
      obtain ⟨f1, f2⟩ := fin2 hf
      clear hf
      subst f1
      subst f2
      exact V.vret (pc := 109) C rfl dX5_describe_109
    replace hf := ite_f c1 hf
    refine V.aload_n (pc := 60) C dX5_describe_60 1 rfl ?_
    refine V.iload (pc := 61) C dX5_describe_61 4 rfl ?_
    replace hf := ob_some hf
    obtain ⟨q2, h3, hf⟩ := hf
    refine V.callV0i (pc := 63) C hyX7_numberAt wd_1010 (mX7_numberAt (r := q2.1) (g' := q2.2) K.2.1 E (kS K) h3) rfl rfl rfl (oX7_numberAt h3) ⟨Nat.le_of_ble_eq_true rfl, Nat.le_of_ble_eq_true rfl⟩ (Nat.le_of_ble_eq_true rfl) dX5_describe_63 ⟨Nat.zero_le _, Nat.zero_le _⟩ rfl ?_
    refine V.istore (pc := 66) (L' := [(6, .int q2.1), (0, .ref v0), (1, .ref v1), (3, .int v3), (4, .int v4), (5, .int v5)]) C dX5_describe_66 (by decide) rfl ?_
    refine V.iload (pc := 68) C dX5_describe_68 0 rfl ?_
    refine V.if_lt (pc := 70) (t := 103) C dX5_describe_70 (by decide) (fun c4 => ?_) (fun c4 => ?_)
    · replace hf := ite_t c4 hf
      refine V.sub (L' := [(0, .ref v0), (1, .ref v1), (3, .int v3), (4, .int v4), (5, .int v5)]) [1, 2, 3, 4, 5] rfl ?_
      exact bX5_describe_103 C ih hf
    replace hf := ite_f c4 hf
    refine V.iload (pc := 73) C dX5_describe_73 0 rfl ?_
    refine V.sipush (pc := 75) C dX5_describe_75 (v := (320 : Int32)) (by decide) ?_
    refine V.icmp_ge (pc := 78) (t := 103) C dX5_describe_78 (by decide) (fun c5 => ?_) (fun c5 => ?_)
    · replace hf := ite_t c5 hf
      refine V.sub (L' := [(0, .ref v0), (1, .ref v1), (3, .int v3), (4, .int v4), (5, .int v5)]) [1, 2, 3, 4, 5] rfl ?_
      exact bX5_describe_103 C ih hf
    replace hf := ite_f c5 hf
    refine V.aload_n (pc := 81) C dX5_describe_81 1 rfl ?_
    replace hf := ob_some hf
    obtain ⟨p6, h7, hf⟩ := hf
    refine V.getR (pc := 82) C kX5 (k := 5) (by decide) wd_950 h7 dX5_describe_82 ?_
    refine V.iload_n (pc := 85) C dX5_describe_85 3 rfl ?_
    refine V.iload (pc := 86) C dX5_describe_86 0 rfl ?_
    refine V.bipush (pc := 88) C dX5_describe_88 (v := (6 : Int32)) (by decide) ?_
    refine V.ishr (pc := 90) C dX5_describe_90 ?_
    refine V.iadd (pc := 91) C dX5_describe_91 ?_
    refine V.dup2 (pc := 92) C dX5_describe_92 rfl rfl ?_
    replace hf := ob_some hf
    obtain ⟨x8, h9, hf⟩ := hf
    refine V.lald (pc := 93) C h9 dX5_describe_93 ?_
    refine V.lconst (pc := 94) C dX5_describe_94 (v := (1 : Int64)) (by decide) ?_
    refine V.iload (pc := 95) C dX5_describe_95 0 rfl ?_
    refine V.bipush (pc := 97) C dX5_describe_97 (v := (63 : Int32)) (by decide) ?_
    refine V.iand (pc := 99) C dX5_describe_99 ?_
    refine V.lshl (pc := 100) C dX5_describe_100 ?_
    refine V.lor (pc := 101) C dX5_describe_101 ?_
    replace hf := ob_some hf
    obtain ⟨g10, h11, hf⟩ := hf
    refine V.last (pc := 102) C h11 dX5_describe_102 ?_
    refine V.sub (L' := [(0, .ref v0), (1, .ref v1), (3, .int v3), (4, .int v4), (5, .int v5)]) [1, 2, 3, 4, 5] rfl ?_
    exact bX5_describe_103 C ih hf
def fX5_describe_7  : Nat → PH → Nat → Nat → Int32 → Int32 → Int32 → Option (Unit × PH)
  | 0, _, _, _, _, _, _ => none
  | n + 1, g, v0, v1, v2, v3, v4 =>
  if (5 : Int32) ≤ v4 then ((getR g v0 5 4).bind fun p2 =>
  ((getI g v1 7 2).bind fun x4 =>
  ((stI g p2 0 v2 x4).bind fun g6 =>
  ((getI g6 v1 7 2).bind fun x8 =>
  (fX5_describe_53 FUEL g6 v0 v1 v3 (if x8 < (60 : Int32) then x8 else (60 : Int32)) (0 : Int32)))))) else
  ((getR g v0 5 5).bind fun p10 =>
  ((stL g p10 (v3 + v4) (0 : Int64)).bind fun g12 =>
  (fX5_describe_7 n g12 v0 v1 v2 v3 (v4 + (1 : Int32)))))
set_option maxHeartbeats 4000000 in
set_option maxRecDepth 100000 in
theorem bX5_describe_7 {K : HK} {E : HE} {r : Unit} {g' : PH}  (C : VC K E 7 cX5_describe RX5 none)  : ∀ (n : Nat) (g : PH) (v0 : Nat) (v1 : Nat) (v2 : Int32) (v3 : Int32) (v4 : Int32), fX5_describe_7  n g v0 v1 v2 v3 v4 = some (r, g') → V K E (hRm 1 21 0 0) 7 (hZ K E none g' 0 0) 0 0 (kS K) g 7 [(0, .ref v0), (1, .ref v1), (2, .int v2), (3, .int v3), (4, .int v4)] [] := by
  intro n
  induction n with
  | zero =>
    intro g v0 v1 v2 v3 v4 hf
    rw [fX5_describe_7] at hf
    cases hf
  | succ n ih =>
    intro g v0 v1 v2 v3 v4 hf
    rw [fX5_describe_7] at hf
    refine V.iload (pc := 7) C dX5_describe_7 4 rfl ?_
    refine V.iconst (pc := 9) C dX5_describe_9 (v := (5 : Int32)) (by decide) ?_
    refine V.icmp_ge (pc := 10) (t := 29) C dX5_describe_10 (by decide) (fun c1 => ?_) (fun c1 => ?_)
    · replace hf := ite_t c1 hf
      refine V.aload_n (pc := 29) C dX5_describe_29 0 rfl ?_
      replace hf := ob_some hf
      obtain ⟨p2, h3, hf⟩ := hf
      refine V.getR (pc := 30) C kX5 (k := 4) (by decide) wd_949 h3 dX5_describe_30 ?_
      refine V.iload_n (pc := 33) C dX5_describe_33 2 rfl ?_
      refine V.aload_n (pc := 34) C dX5_describe_34 1 rfl ?_
      replace hf := ob_some hf
      obtain ⟨x4, h5, hf⟩ := hf
      refine V.getI (pc := 35) C kX7 (k := 2) (by decide) wd_137 h5 dX5_describe_35 ?_
      replace hf := ob_some hf
      obtain ⟨g6, h7, hf⟩ := hf
      refine V.iast (pc := 38) C h7 dX5_describe_38 ?_
      refine V.bipush (pc := 39) C dX5_describe_39 (v := (60 : Int32)) (by decide) ?_
      refine V.aload_n (pc := 41) C dX5_describe_41 1 rfl ?_
      replace hf := ob_some hf
      obtain ⟨x8, h9, hf⟩ := hf
      refine V.getI (pc := 42) C kX7 (k := 2) (by decide) wd_137 h9 dX5_describe_42 ?_
      refine V.mmin (pc := 45) C wd_1009 wd_160 wd_6 wd_161 ⟨Nat.le_of_ble_eq_true rfl, Nat.le_of_ble_eq_true rfl⟩ (Nat.le_of_ble_eq_true rfl) ⟨Nat.zero_le _, Nat.zero_le _⟩ dX5_describe_45 ?_
      refine V.istore (pc := 48) (L' := [(4, .int (if x8 < (60 : Int32) then x8 else (60 : Int32))), (0, .ref v0), (1, .ref v1), (2, .int v2), (3, .int v3)]) C dX5_describe_48 (by decide) rfl ?_
      refine V.iconst (pc := 50) C dX5_describe_50 (v := (0 : Int32)) (by decide) ?_
      refine V.istore (pc := 51) (L' := [(5, .int (0 : Int32)), (4, .int (if x8 < (60 : Int32) then x8 else (60 : Int32))), (0, .ref v0), (1, .ref v1), (2, .int v2), (3, .int v3)]) C dX5_describe_51 (by decide) rfl ?_
      refine V.sub (L' := [(0, .ref v0), (1, .ref v1), (3, .int v3), (4, .int (if x8 < (60 : Int32) then x8 else (60 : Int32))), (5, .int (0 : Int32))]) [2, 3, 5, 1, 0] rfl ?_
      exact bX5_describe_53 C  _ _ _ _ _ _ _ hf
    replace hf := ite_f c1 hf
    refine V.aload_n (pc := 13) C dX5_describe_13 0 rfl ?_
    replace hf := ob_some hf
    obtain ⟨p10, h11, hf⟩ := hf
    refine V.getR (pc := 14) C kX5 (k := 5) (by decide) wd_950 h11 dX5_describe_14 ?_
    refine V.iload_n (pc := 17) C dX5_describe_17 3 rfl ?_
    refine V.iload (pc := 18) C dX5_describe_18 4 rfl ?_
    refine V.iadd (pc := 20) C dX5_describe_20 ?_
    refine V.lconst (pc := 21) C dX5_describe_21 (v := (0 : Int64)) (by decide) ?_
    replace hf := ob_some hf
    obtain ⟨g12, h13, hf⟩ := hf
    refine V.last (pc := 22) C h13 dX5_describe_22 ?_
    refine V.iinc (pc := 23) (v := (v4 + (1 : Int32))) (L' := [(4, .int (v4 + (1 : Int32))), (0, .ref v0), (1, .ref v1), (2, .int v2), (3, .int v3)]) C dX5_describe_23 4 rfl rfl (by decide) rfl ?_
    refine V.goto (pc := 26) (t := 7) C dX5_describe_26 (by decide) ?_
    refine V.sub (L' := [(0, .ref v0), (1, .ref v1), (2, .int v2), (3, .int v3), (4, .int (v4 + (1 : Int32)))]) [1, 2, 3, 4, 0] rfl ?_
    exact ih _ _ _ _ _ _ hf
def fX5_describe (g : PH) (a0 : Nat) (a1 : Nat) (a2 : Int32) : Option (Unit × PH) :=
  okb (isO g a0 5) (fX5_describe_7 FUEL g a0 a1 a2 (a2 * (5 : Int32)) (0 : Int32))
theorem oX5_describe {g : PH} {a0 : Nat} {a1 : Nat} {a2 : Int32} {q : (Unit × PH)} (h : fX5_describe g a0 a1 a2 = some q) : isO g a0 5 = true := by unfold fX5_describe at h; exact (okb_some h).1
theorem hyX5_describe : hMet yX5_describe RX5 cX5_describe 7 none 2 := ⟨wd_1008, wd_1007, ws_46, wd_18, rfl, by decide +kernel, by decide +kernel, by decide +kernel⟩
set_option maxHeartbeats 4000000 in
set_option maxRecDepth 100000 in
theorem mX5_describe (l : Launch) (E : HE) (sz : Nat) {g g' : PH} {a0 : Nat} {a1 : Nat} {a2 : Int32} {r : Unit} (hf : fX5_describe g a0 a1 a2 = some (r, g')) : hM l E yX5_describe cX5_describe 7 none 1 21 0 0 sz g [.ref a0, .ref a1, .int a2] none g' := by
  refine hM.of (by decide) (Nat.le_of_ble_eq_true rfl) (fun K hl C hin hsz => ?_)
  subst hl
  subst hsz
  have C : VC K E 7 cX5_describe RX5 none := C
  unfold fX5_describe at hf
  replace hf := okb_some hf
  obtain ⟨ho, hf⟩ := hf
  refine V.start (L' := [(0, .ref a0), (1, .ref a1), (2, .int a2)]) rfl ?_
  refine V.iload_n (pc := 0) C dX5_describe_0 2 rfl ?_
  refine V.iconst (pc := 1) C dX5_describe_1 (v := (5 : Int32)) (by decide) ?_
  refine V.imul (pc := 2) C dX5_describe_2 ?_
  refine V.istore_n (pc := 3) (L' := [(3, .int (a2 * (5 : Int32))), (0, .ref a0), (1, .ref a1), (2, .int a2)]) C dX5_describe_3 (by decide) rfl ?_
  refine V.iconst (pc := 4) C dX5_describe_4 (v := (0 : Int32)) (by decide) ?_
  refine V.istore (pc := 5) (L' := [(4, .int (0 : Int32)), (3, .int (a2 * (5 : Int32))), (0, .ref a0), (1, .ref a1), (2, .int a2)]) C dX5_describe_5 (by decide) rfl ?_
  refine V.sub (L' := [(0, .ref a0), (1, .ref a1), (2, .int a2), (3, .int (a2 * (5 : Int32))), (4, .int (0 : Int32))]) [2, 3, 4, 1, 0] rfl ?_
  exact bX5_describe_7 C  _ _ _ _ _ _ _ hf
theorem dX5_isAlike_0 : decode cX5_isAlike 0 = .ok (.aload_n 0, 1) := by decide +kernel
theorem dX5_isAlike_1 : decode cX5_isAlike 1 = .ok (.getfield 25, 3) := by decide +kernel
theorem dX5_isAlike_4 : decode cX5_isAlike 4 = .ok (.iload_n 1, 1) := by decide +kernel
theorem dX5_isAlike_5 : decode cX5_isAlike 5 = .ok (.iaload, 1) := by decide +kernel
theorem dX5_isAlike_6 : decode cX5_isAlike 6 = .ok (.aload_n 0, 1) := by decide +kernel
theorem dX5_isAlike_7 : decode cX5_isAlike 7 = .ok (.getfield 25, 3) := by decide +kernel
theorem dX5_isAlike_10 : decode cX5_isAlike 10 = .ok (.iload_n 2, 1) := by decide +kernel
theorem dX5_isAlike_11 : decode cX5_isAlike 11 = .ok (.iaload, 1) := by decide +kernel
theorem dX5_isAlike_12 : decode cX5_isAlike 12 = .ok (.if_icmp .eq 5, 3) := by decide +kernel
theorem dX5_isAlike_15 : decode cX5_isAlike 15 = .ok (.iconst 0, 1) := by decide +kernel
theorem dX5_isAlike_16 : decode cX5_isAlike 16 = .ok (.ireturn, 1) := by decide +kernel
theorem dX5_isAlike_17 : decode cX5_isAlike 17 = .ok (.iconst 0, 1) := by decide +kernel
theorem dX5_isAlike_18 : decode cX5_isAlike 18 = .ok (.istore_n 3, 1) := by decide +kernel
theorem dX5_isAlike_19 : decode cX5_isAlike 19 = .ok (.iload_n 3, 1) := by decide +kernel
theorem dX5_isAlike_20 : decode cX5_isAlike 20 = .ok (.iconst 5, 1) := by decide +kernel
theorem dX5_isAlike_21 : decode cX5_isAlike 21 = .ok (.if_icmp .ge 35, 3) := by decide +kernel
theorem dX5_isAlike_24 : decode cX5_isAlike 24 = .ok (.aload_n 0, 1) := by decide +kernel
theorem dX5_isAlike_25 : decode cX5_isAlike 25 = .ok (.getfield 28, 3) := by decide +kernel
theorem dX5_isAlike_28 : decode cX5_isAlike 28 = .ok (.iload_n 1, 1) := by decide +kernel
theorem dX5_isAlike_29 : decode cX5_isAlike 29 = .ok (.iconst 5, 1) := by decide +kernel
theorem dX5_isAlike_30 : decode cX5_isAlike 30 = .ok (.imul, 1) := by decide +kernel
theorem dX5_isAlike_31 : decode cX5_isAlike 31 = .ok (.iload_n 3, 1) := by decide +kernel
theorem dX5_isAlike_32 : decode cX5_isAlike 32 = .ok (.iadd, 1) := by decide +kernel
theorem dX5_isAlike_33 : decode cX5_isAlike 33 = .ok (.laload, 1) := by decide +kernel
theorem dX5_isAlike_34 : decode cX5_isAlike 34 = .ok (.aload_n 0, 1) := by decide +kernel
theorem dX5_isAlike_35 : decode cX5_isAlike 35 = .ok (.getfield 28, 3) := by decide +kernel
theorem dX5_isAlike_38 : decode cX5_isAlike 38 = .ok (.iload_n 2, 1) := by decide +kernel
theorem dX5_isAlike_39 : decode cX5_isAlike 39 = .ok (.iconst 5, 1) := by decide +kernel
theorem dX5_isAlike_40 : decode cX5_isAlike 40 = .ok (.imul, 1) := by decide +kernel
theorem dX5_isAlike_41 : decode cX5_isAlike 41 = .ok (.iload_n 3, 1) := by decide +kernel
theorem dX5_isAlike_42 : decode cX5_isAlike 42 = .ok (.iadd, 1) := by decide +kernel
theorem dX5_isAlike_43 : decode cX5_isAlike 43 = .ok (.laload, 1) := by decide +kernel
theorem dX5_isAlike_44 : decode cX5_isAlike 44 = .ok (.lcmp, 1) := by decide +kernel
theorem dX5_isAlike_45 : decode cX5_isAlike 45 = .ok (.ifCond .eq 5, 3) := by decide +kernel
theorem dX5_isAlike_48 : decode cX5_isAlike 48 = .ok (.iconst 0, 1) := by decide +kernel
theorem dX5_isAlike_49 : decode cX5_isAlike 49 = .ok (.ireturn, 1) := by decide +kernel
theorem dX5_isAlike_50 : decode cX5_isAlike 50 = .ok (.iinc 3 1, 3) := by decide +kernel
theorem dX5_isAlike_53 : decode cX5_isAlike 53 = .ok (.goto (-34), 3) := by decide +kernel
theorem dX5_isAlike_56 : decode cX5_isAlike 56 = .ok (.iconst 1, 1) := by decide +kernel
theorem dX5_isAlike_57 : decode cX5_isAlike 57 = .ok (.ireturn, 1) := by decide +kernel
def fX5_isAlike_19  : Nat → PH → Nat → Int32 → Int32 → Int32 → Option (Int32 × PH)
  | 0, _, _, _, _, _ => none
  | n + 1, g, v0, v1, v2, v3 =>
  if (5 : Int32) ≤ v3 then (some ((1 : Int32), g)) else
  ((getR g v0 5 5).bind fun p2 =>
  ((ldL g p2 ((v1 * (5 : Int32)) + v3)).bind fun x4 =>
  ((getR g v0 5 5).bind fun p6 =>
  ((ldL g p6 ((v2 * (5 : Int32)) + v3)).bind fun x8 =>
  (if (lg_cmp x4 x8) = 0 then (fX5_isAlike_19 n g v0 v1 v2 (v3 + (1 : Int32))) else
  (some ((0 : Int32), g)))))))
set_option maxHeartbeats 4000000 in
set_option maxRecDepth 100000 in
theorem bX5_isAlike_19 {K : HK} {E : HE} {r : Int32} {g' : PH}  (C : VC K E 4 cX5_isAlike RX5 (some .boolean))  : ∀ (n : Nat) (g : PH) (v0 : Nat) (v1 : Int32) (v2 : Int32) (v3 : Int32), fX5_isAlike_19  n g v0 v1 v2 v3 = some (r, g') → V K E (hRm 0 0 0 0) 4 (hZ K E (some (.int r)) g' 0 0) 0 0 (kS K) g 19 [(0, .ref v0), (1, .int v1), (2, .int v2), (3, .int v3)] [] := by
  intro n
  induction n with
  | zero =>
    intro g v0 v1 v2 v3 hf
    rw [fX5_isAlike_19] at hf
    cases hf
  | succ n ih =>
    intro g v0 v1 v2 v3 hf
    rw [fX5_isAlike_19] at hf
    refine V.iload_n (pc := 19) C dX5_isAlike_19 3 rfl ?_
    refine V.iconst (pc := 20) C dX5_isAlike_20 (v := (5 : Int32)) (by decide) ?_
    refine V.icmp_ge (pc := 21) (t := 56) C dX5_isAlike_21 (by decide) (fun c1 => ?_) (fun c1 => ?_)
    · replace hf := ite_t c1 hf
      refine V.iconst (pc := 56) C dX5_isAlike_56 (v := (1 : Int32)) (by decide) ?_
      obtain ⟨f1, f2⟩ := fin2 hf
      clear hf
      subst f1
      subst f2
      exact V.zret (pc := 57) C rfl rfl dX5_isAlike_57
    replace hf := ite_f c1 hf
    refine V.aload_n (pc := 24) C dX5_isAlike_24 0 rfl ?_
    replace hf := ob_some hf
    obtain ⟨p2, h3, hf⟩ := hf
    refine V.getR (pc := 25) C kX5 (k := 5) (by decide) wd_950 h3 dX5_isAlike_25 ?_
    refine V.iload_n (pc := 28) C dX5_isAlike_28 1 rfl ?_
    refine V.iconst (pc := 29) C dX5_isAlike_29 (v := (5 : Int32)) (by decide) ?_
    refine V.imul (pc := 30) C dX5_isAlike_30 ?_
    refine V.iload_n (pc := 31) C dX5_isAlike_31 3 rfl ?_
    refine V.iadd (pc := 32) C dX5_isAlike_32 ?_
    replace hf := ob_some hf
    obtain ⟨x4, h5, hf⟩ := hf
    refine V.lald (pc := 33) C h5 dX5_isAlike_33 ?_
    refine V.aload_n (pc := 34) C dX5_isAlike_34 0 rfl ?_
    replace hf := ob_some hf
    obtain ⟨p6, h7, hf⟩ := hf
    refine V.getR (pc := 35) C kX5 (k := 5) (by decide) wd_950 h7 dX5_isAlike_35 ?_
    refine V.iload_n (pc := 38) C dX5_isAlike_38 2 rfl ?_
    refine V.iconst (pc := 39) C dX5_isAlike_39 (v := (5 : Int32)) (by decide) ?_
    refine V.imul (pc := 40) C dX5_isAlike_40 ?_
    refine V.iload_n (pc := 41) C dX5_isAlike_41 3 rfl ?_
    refine V.iadd (pc := 42) C dX5_isAlike_42 ?_
    replace hf := ob_some hf
    obtain ⟨x8, h9, hf⟩ := hf
    refine V.lald (pc := 43) C h9 dX5_isAlike_43 ?_
    refine V.lcmp (pc := 44) C dX5_isAlike_44 ?_
    refine V.if_eq (pc := 45) (t := 50) C dX5_isAlike_45 (by decide) (fun c10 => ?_) (fun c10 => ?_)
    · replace hf := ite_t c10 hf
      refine V.iinc (pc := 50) (v := (v3 + (1 : Int32))) (L' := [(3, .int (v3 + (1 : Int32))), (0, .ref v0), (1, .int v1), (2, .int v2)]) C dX5_isAlike_50 3 rfl rfl (by decide) rfl ?_
      refine V.goto (pc := 53) (t := 19) C dX5_isAlike_53 (by decide) ?_
      refine V.sub (L' := [(0, .ref v0), (1, .int v1), (2, .int v2), (3, .int (v3 + (1 : Int32)))]) [1, 2, 3, 0] rfl ?_
      exact ih _ _ _ _ _ hf
    replace hf := ite_f c10 hf
    refine V.iconst (pc := 48) C dX5_isAlike_48 (v := (0 : Int32)) (by decide) ?_
    obtain ⟨f1, f2⟩ := fin2 hf
    clear hf
    subst f1
    subst f2
    exact V.zret (pc := 49) C rfl rfl dX5_isAlike_49
def fX5_isAlike (g : PH) (a0 : Nat) (a1 : Int32) (a2 : Int32) : Option (Int32 × PH) :=
  okb (isO g a0 5) ((getR g a0 5 4).bind fun p1 =>
  ((ldI g p1 0 a1).bind fun x3 =>
  ((getR g a0 5 4).bind fun p5 =>
  ((ldI g p5 0 a2).bind fun x7 =>
  (if x3 = x7 then (fX5_isAlike_19 FUEL g a0 a1 a2 (0 : Int32)) else
  (some ((0 : Int32), g)))))))
theorem oX5_isAlike {g : PH} {a0 : Nat} {a1 : Int32} {a2 : Int32} {q : (Int32 × PH)} (h : fX5_isAlike g a0 a1 a2 = some q) : isO g a0 5 = true := by unfold fX5_isAlike at h; exact (okb_some h).1
theorem hyX5_isAlike : hMet yX5_isAlike RX5 cX5_isAlike 4 (some .boolean) 2 := ⟨wd_1014, wd_1013, ws_47, wd_18, rfl, by decide +kernel, by decide +kernel, by decide +kernel⟩
set_option maxHeartbeats 4000000 in
set_option maxRecDepth 100000 in
theorem mX5_isAlike (l : Launch) (E : HE) (sz : Nat) {g g' : PH} {a0 : Nat} {a1 : Int32} {a2 : Int32} {r : Int32} (hf : fX5_isAlike g a0 a1 a2 = some (r, g')) : hM l E yX5_isAlike cX5_isAlike 4 (some .boolean) 0 0 0 0 sz g [.ref a0, .int a1, .int a2] (some (.int r)) g' := by
  refine hM.of (by decide) (Nat.le_of_ble_eq_true rfl) (fun K hl C hin hsz => ?_)
  subst hl
  subst hsz
  have C : VC K E 4 cX5_isAlike RX5 (some .boolean) := C
  unfold fX5_isAlike at hf
  replace hf := okb_some hf
  obtain ⟨ho, hf⟩ := hf
  refine V.start (L' := [(0, .ref a0), (1, .int a1), (2, .int a2)]) rfl ?_
  refine V.aload_n (pc := 0) C dX5_isAlike_0 0 rfl ?_
  replace hf := ob_some hf
  obtain ⟨p1, h2, hf⟩ := hf
  refine V.getR (pc := 1) C kX5 (k := 4) (by decide) wd_949 h2 dX5_isAlike_1 ?_
  refine V.iload_n (pc := 4) C dX5_isAlike_4 1 rfl ?_
  replace hf := ob_some hf
  obtain ⟨x3, h4, hf⟩ := hf
  refine V.iald (pc := 5) C h4 dX5_isAlike_5 ?_
  refine V.aload_n (pc := 6) C dX5_isAlike_6 0 rfl ?_
  replace hf := ob_some hf
  obtain ⟨p5, h6, hf⟩ := hf
  refine V.getR (pc := 7) C kX5 (k := 4) (by decide) wd_949 h6 dX5_isAlike_7 ?_
  refine V.iload_n (pc := 10) C dX5_isAlike_10 2 rfl ?_
  replace hf := ob_some hf
  obtain ⟨x7, h8, hf⟩ := hf
  refine V.iald (pc := 11) C h8 dX5_isAlike_11 ?_
  refine V.icmp_eq (pc := 12) (t := 17) C dX5_isAlike_12 (by decide) (fun c9 => ?_) (fun c9 => ?_)
  · replace hf := ite_t c9 hf
    refine V.iconst (pc := 17) C dX5_isAlike_17 (v := (0 : Int32)) (by decide) ?_
    refine V.istore_n (pc := 18) (L' := [(3, .int (0 : Int32)), (0, .ref a0), (1, .int a1), (2, .int a2)]) C dX5_isAlike_18 (by decide) rfl ?_
    refine V.sub (L' := [(0, .ref a0), (1, .int a1), (2, .int a2), (3, .int (0 : Int32))]) [1, 2, 3, 0] rfl ?_
    exact bX5_isAlike_19 C  _ _ _ _ _ _ hf
  replace hf := ite_f c9 hf
  refine V.iconst (pc := 15) C dX5_isAlike_15 (v := (0 : Int32)) (by decide) ?_
  obtain ⟨f1, f2⟩ := fin2 hf
  clear hf
  subst f1
  subst f2
  exact V.zret (pc := 16) C rfl rfl dX5_isAlike_16
theorem dX5_partWith_0 : decode cX5_partWith 0 = .ok (.aload_n 0, 1) := by decide +kernel
theorem dX5_partWith_1 : decode cX5_partWith 1 = .ok (.getfield 15, 3) := by decide +kernel
theorem dX5_partWith_4 : decode cX5_partWith 4 = .ok (.sipush 240, 3) := by decide +kernel
theorem dX5_partWith_7 : decode cX5_partWith 7 = .ok (.if_icmp .lt 5, 3) := by decide +kernel
theorem dX5_partWith_10 : decode cX5_partWith 10 = .ok (.iconst 0, 1) := by decide +kernel
theorem dX5_partWith_11 : decode cX5_partWith 11 = .ok (.ireturn, 1) := by decide +kernel
theorem dX5_partWith_12 : decode cX5_partWith 12 = .ok (.aload_n 0, 1) := by decide +kernel
theorem dX5_partWith_13 : decode cX5_partWith 13 = .ok (.aload_n 1, 1) := by decide +kernel
theorem dX5_partWith_14 : decode cX5_partWith 14 = .ok (.aload_n 0, 1) := by decide +kernel
theorem dX5_partWith_15 : decode cX5_partWith 15 = .ok (.getfield 15, 3) := by decide +kernel
theorem dX5_partWith_18 : decode cX5_partWith 18 = .ok (.invokevirtual 32, 3) := by decide +kernel
theorem dX5_partWith_21 : decode cX5_partWith 21 = .ok (.iconst 0, 1) := by decide +kernel
theorem dX5_partWith_22 : decode cX5_partWith 22 = .ok (.istore_n 2, 1) := by decide +kernel
theorem dX5_partWith_23 : decode cX5_partWith 23 = .ok (.iload_n 2, 1) := by decide +kernel
theorem dX5_partWith_24 : decode cX5_partWith 24 = .ok (.aload_n 0, 1) := by decide +kernel
theorem dX5_partWith_25 : decode cX5_partWith 25 = .ok (.getfield 15, 3) := by decide +kernel
theorem dX5_partWith_28 : decode cX5_partWith 28 = .ok (.if_icmp .ge 21, 3) := by decide +kernel
theorem dX5_partWith_31 : decode cX5_partWith 31 = .ok (.aload_n 0, 1) := by decide +kernel
theorem dX5_partWith_32 : decode cX5_partWith 32 = .ok (.iload_n 2, 1) := by decide +kernel
theorem dX5_partWith_33 : decode cX5_partWith 33 = .ok (.aload_n 0, 1) := by decide +kernel
theorem dX5_partWith_34 : decode cX5_partWith 34 = .ok (.getfield 15, 3) := by decide +kernel
theorem dX5_partWith_37 : decode cX5_partWith 37 = .ok (.invokevirtual 36, 3) := by decide +kernel
theorem dX5_partWith_40 : decode cX5_partWith 40 = .ok (.ifCond .ne 9, 3) := by decide +kernel
theorem dX5_partWith_43 : decode cX5_partWith 43 = .ok (.iinc 2 1, 3) := by decide +kernel
theorem dX5_partWith_46 : decode cX5_partWith 46 = .ok (.goto (-23), 3) := by decide +kernel
theorem dX5_partWith_49 : decode cX5_partWith 49 = .ok (.iload_n 2, 1) := by decide +kernel
theorem dX5_partWith_50 : decode cX5_partWith 50 = .ok (.aload_n 0, 1) := by decide +kernel
theorem dX5_partWith_51 : decode cX5_partWith 51 = .ok (.getfield 15, 3) := by decide +kernel
theorem dX5_partWith_54 : decode cX5_partWith 54 = .ok (.if_icmp .ne 20, 3) := by decide +kernel
theorem dX5_partWith_57 : decode cX5_partWith 57 = .ok (.aload_n 0, 1) := by decide +kernel
theorem dX5_partWith_58 : decode cX5_partWith 58 = .ok (.getfield 22, 3) := by decide +kernel
theorem dX5_partWith_61 : decode cX5_partWith 61 = .ok (.iload_n 2, 1) := by decide +kernel
theorem dX5_partWith_62 : decode cX5_partWith 62 = .ok (.iconst 0, 1) := by decide +kernel
theorem dX5_partWith_63 : decode cX5_partWith 63 = .ok (.iastore, 1) := by decide +kernel
theorem dX5_partWith_64 : decode cX5_partWith 64 = .ok (.aload_n 0, 1) := by decide +kernel
theorem dX5_partWith_65 : decode cX5_partWith 65 = .ok (.dup, 1) := by decide +kernel
theorem dX5_partWith_66 : decode cX5_partWith 66 = .ok (.getfield 15, 3) := by decide +kernel
theorem dX5_partWith_69 : decode cX5_partWith 69 = .ok (.iconst 1, 1) := by decide +kernel
theorem dX5_partWith_70 : decode cX5_partWith 70 = .ok (.iadd, 1) := by decide +kernel
theorem dX5_partWith_71 : decode cX5_partWith 71 = .ok (.putfield 15, 3) := by decide +kernel
theorem dX5_partWith_74 : decode cX5_partWith 74 = .ok (.aload_n 0, 1) := by decide +kernel
theorem dX5_partWith_75 : decode cX5_partWith 75 = .ok (.getfield 22, 3) := by decide +kernel
theorem dX5_partWith_78 : decode cX5_partWith 78 = .ok (.iload_n 2, 1) := by decide +kernel
theorem dX5_partWith_79 : decode cX5_partWith 79 = .ok (.dup2, 1) := by decide +kernel
theorem dX5_partWith_80 : decode cX5_partWith 80 = .ok (.iaload, 1) := by decide +kernel
theorem dX5_partWith_81 : decode cX5_partWith 81 = .ok (.iconst 1, 1) := by decide +kernel
theorem dX5_partWith_82 : decode cX5_partWith 82 = .ok (.iadd, 1) := by decide +kernel
theorem dX5_partWith_83 : decode cX5_partWith 83 = .ok (.iastore, 1) := by decide +kernel
theorem dX5_partWith_84 : decode cX5_partWith 84 = .ok (.aload_n 0, 1) := by decide +kernel
theorem dX5_partWith_85 : decode cX5_partWith 85 = .ok (.getfield 22, 3) := by decide +kernel
theorem dX5_partWith_88 : decode cX5_partWith 88 = .ok (.iload_n 2, 1) := by decide +kernel
theorem dX5_partWith_89 : decode cX5_partWith 89 = .ok (.iaload, 1) := by decide +kernel
theorem dX5_partWith_90 : decode cX5_partWith 90 = .ok (.ireturn, 1) := by decide +kernel
def fX5_partWith_74  (g : PH) (v0 : Nat) (v2 : Int32) : Option (Int32 × PH) :=
  (getR g v0 5 3).bind fun p1 =>
  ((ldI g p1 0 v2).bind fun x3 =>
  ((stI g p1 0 v2 (x3 + (1 : Int32))).bind fun g5 =>
  ((getR g5 v0 5 3).bind fun p7 =>
  ((ldI g5 p7 0 v2).bind fun x9 =>
  (some (x9, g5))))))
set_option maxHeartbeats 4000000 in
set_option maxRecDepth 100000 in
theorem bX5_partWith_74 {K : HK} {E : HE} {r : Int32} {g' : PH}  (C : VC K E 3 cX5_partWith RX5 (some .int))  {g : PH} {v0 : Nat} {v2 : Int32} (hf : fX5_partWith_74  g v0 v2 = some (r, g')) : V K E (hRm 2 47 0 0) 3 (hZ K E (some (.int r)) g' 0 0) 0 0 (kS K) g 74 [(0, .ref v0), (2, .int v2)] [] := by
  unfold fX5_partWith_74 at hf
  refine V.aload_n (pc := 74) C dX5_partWith_74 0 rfl ?_
  replace hf := ob_some hf
  obtain ⟨p1, h2, hf⟩ := hf
  refine V.getR (pc := 75) C kX5 (k := 3) (by decide) wd_948 h2 dX5_partWith_75 ?_
  refine V.iload_n (pc := 78) C dX5_partWith_78 1 rfl ?_
  refine V.dup2 (pc := 79) C dX5_partWith_79 rfl rfl ?_
  replace hf := ob_some hf
  obtain ⟨x3, h4, hf⟩ := hf
  refine V.iald (pc := 80) C h4 dX5_partWith_80 ?_
  refine V.iconst (pc := 81) C dX5_partWith_81 (v := (1 : Int32)) (by decide) ?_
  refine V.iadd (pc := 82) C dX5_partWith_82 ?_
  replace hf := ob_some hf
  obtain ⟨g5, h6, hf⟩ := hf
  refine V.iast (pc := 83) C h6 dX5_partWith_83 ?_
  refine V.aload_n (pc := 84) C dX5_partWith_84 0 rfl ?_
  replace hf := ob_some hf
  obtain ⟨p7, h8, hf⟩ := hf
  refine V.getR (pc := 85) C kX5 (k := 3) (by decide) wd_948 h8 dX5_partWith_85 ?_
  refine V.iload_n (pc := 88) C dX5_partWith_88 1 rfl ?_
  replace hf := ob_some hf
  obtain ⟨x9, h10, hf⟩ := hf
  refine V.iald (pc := 89) C h10 dX5_partWith_89 ?_
  obtain ⟨f1, f2⟩ := fin2 hf
  clear hf
  subst f1
  subst f2
  exact V.iret (pc := 90) C rfl dX5_partWith_90
def fX5_partWith_49  (g : PH) (v0 : Nat) (v2 : Int32) : Option (Int32 × PH) :=
  (getI g v0 5 1).bind fun x1 =>
  (if v2 = x1 then ((getR g v0 5 3).bind fun p4 =>
  ((stI g p4 0 v2 (0 : Int32)).bind fun g6 =>
  ((getI g6 v0 5 1).bind fun x8 =>
  ((putV g6 v0 5 1 (.int (x8 + (1 : Int32)))).bind fun g10 =>
  (fX5_partWith_74 g10 v0 v2))))) else
  (fX5_partWith_74 g v0 v2))
set_option maxHeartbeats 4000000 in
set_option maxRecDepth 100000 in
theorem bX5_partWith_49 {K : HK} {E : HE} {r : Int32} {g' : PH}  (C : VC K E 3 cX5_partWith RX5 (some .int))  {g : PH} {v0 : Nat} {v2 : Int32} (hf : fX5_partWith_49  g v0 v2 = some (r, g')) : V K E (hRm 2 47 0 0) 3 (hZ K E (some (.int r)) g' 0 0) 0 0 (kS K) g 49 [(0, .ref v0), (2, .int v2)] [] := by
  unfold fX5_partWith_49 at hf
  refine V.iload_n (pc := 49) C dX5_partWith_49 1 rfl ?_
  refine V.aload_n (pc := 50) C dX5_partWith_50 0 rfl ?_
  replace hf := ob_some hf
  obtain ⟨x1, h2, hf⟩ := hf
  refine V.getI (pc := 51) C kX5 (k := 1) (by decide) wd_945 h2 dX5_partWith_51 ?_
  refine V.icmp_ne (pc := 54) (t := 74) C dX5_partWith_54 (by decide) (fun c3 => ?_) (fun c3 => ?_)
  · replace hf := ite_f c3 hf
    refine V.sub (L' := [(0, .ref v0), (2, .int v2)]) [0, 1] rfl ?_
    exact bX5_partWith_74 C  hf
  replace hf := ite_t c3 hf
  refine V.aload_n (pc := 57) C dX5_partWith_57 0 rfl ?_
  replace hf := ob_some hf
  obtain ⟨p4, h5, hf⟩ := hf
  refine V.getR (pc := 58) C kX5 (k := 3) (by decide) wd_948 h5 dX5_partWith_58 ?_
  refine V.iload_n (pc := 61) C dX5_partWith_61 1 rfl ?_
  refine V.iconst (pc := 62) C dX5_partWith_62 (v := (0 : Int32)) (by decide) ?_
  replace hf := ob_some hf
  obtain ⟨g6, h7, hf⟩ := hf
  refine V.iast (pc := 63) C h7 dX5_partWith_63 ?_
  refine V.aload_n (pc := 64) C dX5_partWith_64 0 rfl ?_
  refine V.dup (pc := 65) C dX5_partWith_65 rfl ?_
  replace hf := ob_some hf
  obtain ⟨x8, h9, hf⟩ := hf
  refine V.getI (pc := 66) C kX5 (k := 1) (by decide) wd_945 h9 dX5_partWith_66 ?_
  refine V.iconst (pc := 69) C dX5_partWith_69 (v := (1 : Int32)) (by decide) ?_
  refine V.iadd (pc := 70) C dX5_partWith_70 ?_
  replace hf := ob_some hf
  obtain ⟨g10, h11, hf⟩ := hf
  refine V.putX (pc := 71) C kX5 (k := 1) (by decide) wd_945 rfl rfl rfl h11 dX5_partWith_71 ?_
  refine V.sub (L' := [(0, .ref v0), (2, .int v2)]) [0, 1] rfl ?_
  exact bX5_partWith_74 C  hf
def fX5_partWith_23  : Nat → PH → Nat → Int32 → Option (Int32 × PH)
  | 0, _, _, _ => none
  | n + 1, g, v0, v2 =>
  (getI g v0 5 1).bind fun x1 =>
  (if x1 ≤ v2 then (fX5_partWith_49 g v0 v2) else
  ((getI g v0 5 1).bind fun x4 =>
  ((fX5_isAlike g v0 v2 x4).bind fun q6 =>
  (if q6.1 = 0 then (fX5_partWith_23 n q6.2 v0 (v2 + (1 : Int32))) else
  (fX5_partWith_49 q6.2 v0 v2)))))
set_option maxHeartbeats 4000000 in
set_option maxRecDepth 100000 in
theorem bX5_partWith_23 {K : HK} {E : HE} {r : Int32} {g' : PH}  (C : VC K E 3 cX5_partWith RX5 (some .int))  : ∀ (n : Nat) (g : PH) (v0 : Nat) (v2 : Int32), fX5_partWith_23  n g v0 v2 = some (r, g') → V K E (hRm 2 47 0 0) 3 (hZ K E (some (.int r)) g' 0 0) 0 0 (kS K) g 23 [(0, .ref v0), (2, .int v2)] [] := by
  intro n
  induction n with
  | zero =>
    intro g v0 v2 hf
    rw [fX5_partWith_23] at hf
    cases hf
  | succ n ih =>
    intro g v0 v2 hf
    rw [fX5_partWith_23] at hf
    refine V.iload_n (pc := 23) C dX5_partWith_23 1 rfl ?_
    refine V.aload_n (pc := 24) C dX5_partWith_24 0 rfl ?_
    replace hf := ob_some hf
    obtain ⟨x1, h2, hf⟩ := hf
    refine V.getI (pc := 25) C kX5 (k := 1) (by decide) wd_945 h2 dX5_partWith_25 ?_
    refine V.icmp_ge (pc := 28) (t := 49) C dX5_partWith_28 (by decide) (fun c3 => ?_) (fun c3 => ?_)
    · replace hf := ite_t c3 hf
      refine V.sub (L' := [(0, .ref v0), (2, .int v2)]) [0, 1] rfl ?_
      exact bX5_partWith_49 C  hf
    replace hf := ite_f c3 hf
    refine V.aload_n (pc := 31) C dX5_partWith_31 0 rfl ?_
    refine V.iload_n (pc := 32) C dX5_partWith_32 1 rfl ?_
    refine V.aload_n (pc := 33) C dX5_partWith_33 0 rfl ?_
    replace hf := ob_some hf
    obtain ⟨x4, h5, hf⟩ := hf
    refine V.getI (pc := 34) C kX5 (k := 1) (by decide) wd_945 h5 dX5_partWith_34 ?_
    replace hf := ob_some hf
    obtain ⟨q6, h7, hf⟩ := hf
    refine V.callV0i (pc := 37) C hyX5_isAlike wd_1011 (mX5_isAlike (r := q6.1) (g' := q6.2) K.2.1 E (kS K) h7) rfl rfl rfl (oX5_isAlike h7) ⟨Nat.le_of_ble_eq_true rfl, Nat.le_of_ble_eq_true rfl⟩ (Nat.le_of_ble_eq_true rfl) dX5_partWith_37 ⟨Nat.zero_le _, Nat.zero_le _⟩ rfl ?_
    refine V.if_ne (pc := 40) (t := 49) C dX5_partWith_40 (by decide) (fun c8 => ?_) (fun c8 => ?_)
    · replace hf := ite_f c8 hf
      refine V.sub (L' := [(0, .ref v0), (2, .int v2)]) [0, 1] rfl ?_
      exact bX5_partWith_49 C  hf
    replace hf := ite_t c8 hf
    refine V.iinc (pc := 43) (v := (v2 + (1 : Int32))) (L' := [(2, .int (v2 + (1 : Int32))), (0, .ref v0)]) C dX5_partWith_43 1 rfl rfl (by decide) rfl ?_
    refine V.goto (pc := 46) (t := 23) C dX5_partWith_46 (by decide) ?_
    refine V.sub (L' := [(0, .ref v0), (2, .int (v2 + (1 : Int32)))]) [1, 0] rfl ?_
    exact ih _ _ _ hf
def fX5_partWith (g : PH) (a0 : Nat) (a1 : Nat) : Option (Int32 × PH) :=
  okb (isO g a0 5) ((getI g a0 5 1).bind fun x1 =>
  (if x1 < (240 : Int32) then ((getI g a0 5 1).bind fun x4 =>
  ((fX5_describe g a0 a1 x4).bind fun q6 =>
  (fX5_partWith_23 FUEL q6.2 a0 (0 : Int32)))) else
  (some ((0 : Int32), g))))
theorem oX5_partWith {g : PH} {a0 : Nat} {a1 : Nat} {q : (Int32 × PH)} (h : fX5_partWith g a0 a1 = some q) : isO g a0 5 = true := by unfold fX5_partWith at h; exact (okb_some h).1
theorem hyX5_partWith : hMet yX5_partWith RX5 cX5_partWith 3 (some .int) 1 := ⟨wd_1004, wd_1002, wd_1003, wd_18, rfl, by decide +kernel, by decide +kernel, by decide +kernel⟩
set_option maxHeartbeats 4000000 in
set_option maxRecDepth 100000 in
theorem mX5_partWith (l : Launch) (E : HE) (sz : Nat) {g g' : PH} {a0 : Nat} {a1 : Nat} {r : Int32} (hf : fX5_partWith g a0 a1 = some (r, g')) : hM l E yX5_partWith cX5_partWith 3 (some .int) 2 47 0 0 sz g [.ref a0, .ref a1] (some (.int r)) g' := by
  refine hM.of (by decide) (Nat.le_of_ble_eq_true rfl) (fun K hl C hin hsz => ?_)
  subst hl
  subst hsz
  have C : VC K E 3 cX5_partWith RX5 (some .int) := C
  unfold fX5_partWith at hf
  replace hf := okb_some hf
  obtain ⟨ho, hf⟩ := hf
  refine V.start (L' := [(0, .ref a0), (1, .ref a1)]) rfl ?_
  refine V.aload_n (pc := 0) C dX5_partWith_0 0 rfl ?_
  replace hf := ob_some hf
  obtain ⟨x1, h2, hf⟩ := hf
  refine V.getI (pc := 1) C kX5 (k := 1) (by decide) wd_945 h2 dX5_partWith_1 ?_
  refine V.sipush (pc := 4) C dX5_partWith_4 (v := (240 : Int32)) (by decide) ?_
  refine V.icmp_lt (pc := 7) (t := 12) C dX5_partWith_7 (by decide) (fun c3 => ?_) (fun c3 => ?_)
  · replace hf := ite_t c3 hf
    refine V.aload_n (pc := 12) C dX5_partWith_12 0 rfl ?_
    refine V.aload_n (pc := 13) C dX5_partWith_13 1 rfl ?_
    refine V.aload_n (pc := 14) C dX5_partWith_14 0 rfl ?_
    replace hf := ob_some hf
    obtain ⟨x4, h5, hf⟩ := hf
    refine V.getI (pc := 15) C kX5 (k := 1) (by decide) wd_945 h5 dX5_partWith_15 ?_
    replace hf := ob_some hf
    obtain ⟨q6, h7, hf⟩ := hf
    refine V.callV0v (pc := 18) C hyX5_describe wd_1005 (mX5_describe (r := q6.1) (g' := q6.2) K.2.1 E (kS K) h7) rfl rfl rfl (oX5_describe h7) ⟨Nat.le_of_ble_eq_true rfl, Nat.le_of_ble_eq_true rfl⟩ (Nat.le_of_ble_eq_true rfl) dX5_partWith_18 ⟨Nat.zero_le _, Nat.zero_le _⟩ rfl ?_
    refine V.iconst (pc := 21) C dX5_partWith_21 (v := (0 : Int32)) (by decide) ?_
    refine V.istore_n (pc := 22) (L' := [(2, .int (0 : Int32)), (0, .ref a0), (1, .ref a1)]) C dX5_partWith_22 (by decide) rfl ?_
    refine V.sub (L' := [(0, .ref a0), (2, .int (0 : Int32))]) [1, 0] rfl ?_
    exact bX5_partWith_23 C  _ _ _ _ hf
  replace hf := ite_f c3 hf
  refine V.iconst (pc := 10) C dX5_partWith_10 (v := (0 : Int32)) (by decide) ?_
  obtain ⟨f1, f2⟩ := fin2 hf
  clear hf
  subst f1
  subst f2
  exact V.iret (pc := 11) C rfl dX5_partWith_11
