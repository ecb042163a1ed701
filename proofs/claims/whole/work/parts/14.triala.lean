theorem dX7_numberAt_0 : decode cX7_numberAt 0 = .ok (.iload_n 1, 1) := by decide +kernel
theorem dX7_numberAt_1 : decode cX7_numberAt 1 = .ok (.ifCond .lt 26, 3) := by decide +kernel
theorem dX7_numberAt_4 : decode cX7_numberAt 4 = .ok (.iload_n 1, 1) := by decide +kernel
theorem dX7_numberAt_5 : decode cX7_numberAt 5 = .ok (.bipush 60, 2) := by decide +kernel
theorem dX7_numberAt_7 : decode cX7_numberAt 7 = .ok (.if_icmp .ge 20, 3) := by decide +kernel
theorem dX7_numberAt_10 : decode cX7_numberAt 10 = .ok (.iload_n 1, 1) := by decide +kernel
theorem dX7_numberAt_11 : decode cX7_numberAt 11 = .ok (.aload_n 0, 1) := by decide +kernel
theorem dX7_numberAt_12 : decode cX7_numberAt 12 = .ok (.getfield 18, 3) := by decide +kernel
theorem dX7_numberAt_15 : decode cX7_numberAt 15 = .ok (.if_icmp .ge 12, 3) := by decide +kernel
theorem dX7_numberAt_18 : decode cX7_numberAt 18 = .ok (.aload_n 0, 1) := by decide +kernel
theorem dX7_numberAt_19 : decode cX7_numberAt 19 = .ok (.getfield 27, 3) := by decide +kernel
theorem dX7_numberAt_22 : decode cX7_numberAt 22 = .ok (.iload_n 1, 1) := by decide +kernel
theorem dX7_numberAt_23 : decode cX7_numberAt 23 = .ok (.iaload, 1) := by decide +kernel
theorem dX7_numberAt_24 : decode cX7_numberAt 24 = .ok (.goto 4, 3) := by decide +kernel
theorem dX7_numberAt_27 : decode cX7_numberAt 27 = .ok (.iconst (-1), 1) := by decide +kernel
theorem dX7_numberAt_28 : decode cX7_numberAt 28 = .ok (.ireturn, 1) := by decide +kernel
def fX7_numberAt (g : PH) (a0 : Nat) (a1 : Int32) : Option (Int32 × PH) :=
  okb (isO g a0 7) (if a1 < 0 then (some ((-1 : Int32), g)) else
  (if (60 : Int32) ≤ a1 then (some ((-1 : Int32), g)) else
  ((getI g a0 7 2).bind fun x3 =>
  (if x3 ≤ a1 then (some ((-1 : Int32), g)) else
  ((getR g a0 7 5).bind fun p6 =>
  ((ldI g p6 0 a1).bind fun x8 =>
  (some (x8, g))))))))
theorem oX7_numberAt {g : PH} {a0 : Nat} {a1 : Int32} {q : (Int32 × PH)} (h : fX7_numberAt g a0 a1 = some q) : isO g a0 7 = true := by unfold fX7_numberAt at h; exact (okb_some h).1
theorem hyX7_numberAt : hMet yX7_numberAt RX7 cX7_numberAt 2 (some .int) 1 := ⟨wd_980, wd_978, wd_979, wd_5, rfl, by decide +kernel, by decide +kernel, by decide +kernel⟩
set_option maxHeartbeats 4000000 in
set_option maxRecDepth 100000 in
theorem mX7_numberAt (l : Launch) (E : HE) (sz : Nat) {g g' : PH} {a0 : Nat} {a1 : Int32} {r : Int32} (hf : fX7_numberAt g a0 a1 = some (r, g')) : hM l E yX7_numberAt cX7_numberAt 2 (some .int) 0 0 0 0 sz g [.ref a0, .int a1] (some (.int r)) g' := by
  refine hM.of (by decide) (Nat.le_of_ble_eq_true rfl) (fun K hl C hin hsz => ?_)
  subst hl
  subst hsz
  have C : VC K E 2 cX7_numberAt RX7 (some .int) := C
  unfold fX7_numberAt at hf
  replace hf := okb_some hf
  obtain ⟨ho, hf⟩ := hf
  refine V.start (L' := [(0, .ref a0), (1, .int a1)]) rfl ?_
  refine V.iload_n (pc := 0) C dX7_numberAt_0 1 rfl ?_
  refine V.if_lt (pc := 1) (t := 27) C dX7_numberAt_1 (by decide) (fun c1 => ?_) (fun c1 => ?_)
  · replace hf := ite_t c1 hf
    refine V.iconst (pc := 27) C dX7_numberAt_27 (v := (-1 : Int32)) (by decide) ?_
    obtain ⟨f1, f2⟩ := fin2 hf
    clear hf
    subst f1
    subst f2
    exact V.iret (pc := 28) C rfl dX7_numberAt_28
  replace hf := ite_f c1 hf
  refine V.iload_n (pc := 4) C dX7_numberAt_4 1 rfl ?_
  refine V.bipush (pc := 5) C dX7_numberAt_5 (v := (60 : Int32)) (by decide) ?_
  refine V.icmp_ge (pc := 7) (t := 27) C dX7_numberAt_7 (by decide) (fun c2 => ?_) (fun c2 => ?_)
  · replace hf := ite_t c2 hf
    refine V.iconst (pc := 27) C dX7_numberAt_27 (v := (-1 : Int32)) (by decide) ?_
    obtain ⟨f1, f2⟩ := fin2 hf
    clear hf
    subst f1
    subst f2
    exact V.iret (pc := 28) C rfl dX7_numberAt_28
  replace hf := ite_f c2 hf
  refine V.iload_n (pc := 10) C dX7_numberAt_10 1 rfl ?_
  refine V.aload_n (pc := 11) C dX7_numberAt_11 0 rfl ?_
  replace hf := ob_some hf
  obtain ⟨x3, h4, hf⟩ := hf
  refine V.getI (pc := 12) C kX7 (k := 2) (by decide) wd_136 h4 dX7_numberAt_12 ?_
  refine V.icmp_ge (pc := 15) (t := 27) C dX7_numberAt_15 (by decide) (fun c5 => ?_) (fun c5 => ?_)
  · replace hf := ite_t c5 hf
    refine V.iconst (pc := 27) C dX7_numberAt_27 (v := (-1 : Int32)) (by decide) ?_
    obtain ⟨f1, f2⟩ := fin2 hf
    clear hf
    subst f1
    subst f2
    exact V.iret (pc := 28) C rfl dX7_numberAt_28
  replace hf := ite_f c5 hf
  refine V.aload_n (pc := 18) C dX7_numberAt_18 0 rfl ?_
  replace hf := ob_some hf
  obtain ⟨p6, h7, hf⟩ := hf
  refine V.getR (pc := 19) C kX7 (k := 5) (by decide) wd_141 h7 dX7_numberAt_19 ?_
  refine V.iload_n (pc := 22) C dX7_numberAt_22 1 rfl ?_
  replace hf := ob_some hf
  obtain ⟨x8, h9, hf⟩ := hf
  refine V.iald (pc := 23) C h9 dX7_numberAt_23 ?_
  refine V.goto (pc := 24) (t := 28) C dX7_numberAt_24 (by decide) ?_
  obtain ⟨f1, f2⟩ := fin2 hf
  clear hf
  subst f1
  subst f2
  exact V.iret (pc := 28) C rfl dX7_numberAt_28
theorem dX7_init_0 : decode cX7_init 0 = .ok (.aload_n 0, 1) := by decide +kernel
theorem dX7_init_1 : decode cX7_init 1 = .ok (.invokespecial 3, 3) := by decide +kernel
theorem dX7_init_4 : decode cX7_init 4 = .ok (.aload_n 0, 1) := by decide +kernel
theorem dX7_init_5 : decode cX7_init 5 = .ok (.iconst 0, 1) := by decide +kernel
theorem dX7_init_6 : decode cX7_init 6 = .ok (.putfield 9, 3) := by decide +kernel
theorem dX7_init_9 : decode cX7_init 9 = .ok (.aload_n 0, 1) := by decide +kernel
theorem dX7_init_10 : decode cX7_init 10 = .ok (.iconst 1, 1) := by decide +kernel
theorem dX7_init_11 : decode cX7_init 11 = .ok (.putfield 15, 3) := by decide +kernel
theorem dX7_init_14 : decode cX7_init 14 = .ok (.aload_n 0, 1) := by decide +kernel
theorem dX7_init_15 : decode cX7_init 15 = .ok (.iconst 0, 1) := by decide +kernel
theorem dX7_init_16 : decode cX7_init 16 = .ok (.putfield 18, 3) := by decide +kernel
theorem dX7_init_19 : decode cX7_init 19 = .ok (.aload_n 0, 1) := by decide +kernel
theorem dX7_init_20 : decode cX7_init 20 = .ok (.iconst 2, 1) := by decide +kernel
theorem dX7_init_21 : decode cX7_init 21 = .ok (.putfield 21, 3) := by decide +kernel
theorem dX7_init_24 : decode cX7_init 24 = .ok (.aload_n 0, 1) := by decide +kernel
theorem dX7_init_25 : decode cX7_init 25 = .ok (.iconst 0, 1) := by decide +kernel
theorem dX7_init_26 : decode cX7_init 26 = .ok (.putfield 24, 3) := by decide +kernel
theorem dX7_init_29 : decode cX7_init 29 = .ok (.aload_n 0, 1) := by decide +kernel
theorem dX7_init_30 : decode cX7_init 30 = .ok (.bipush 60, 2) := by decide +kernel
theorem dX7_init_32 : decode cX7_init 32 = .ok (.newarray .int, 2) := by decide +kernel
theorem dX7_init_34 : decode cX7_init 34 = .ok (.putfield 27, 3) := by decide +kernel
theorem dX7_init_37 : decode cX7_init 37 = .ok (.return_, 1) := by decide +kernel
def fX7_init (sz : Nat) (g : PH) (a0 : Nat) : Option (Unit × PH × Nat × Nat) :=
  (putV g a0 7 0 (.int (0 : Int32))).bind fun g1 =>
  ((putV g1 a0 7 1 (.int (1 : Int32))).bind fun g3 =>
  ((putV g3 a0 7 2 (.int (0 : Int32))).bind fun g5 =>
  ((putV g5 a0 7 3 (.int (2 : Int32))).bind fun g7 =>
  ((putV g7 a0 7 4 (.int (0 : Int32))).bind fun g9 =>
  (bmp 1 60 ((putV (hup g9 sz (.inl (0, 60, .inl (fun _ => 0)))) a0 7 5 (.ref sz)).bind fun g16 =>
  (some ((), g16, 0, 0))))))))
theorem hyX7_init : hMetI yX7_init cX7_init 1 0 := ⟨wd_130, wd_129, wd_5, rfl, by decide +kernel, by decide +kernel, by decide +kernel⟩
set_option maxHeartbeats 4000000 in
set_option maxRecDepth 100000 in
theorem mX7_init (l : Launch) (E : HE) (sz : Nat) {g g' : PH} {a0 : Nat} {r : Unit} {mc ms : Nat} (hf : fX7_init sz g a0 = some (r, g', mc, ms)) : hM l E yX7_init cX7_init 1 none 1 20 mc ms sz g [.ref a0] none g' := by
  refine hM.of (by decide) (Nat.le_of_ble_eq_true rfl) (fun K hl C hin hsz => ?_)
  subst hl
  subst hsz
  have C : VC K E 1 cX7_init RX7 none := C
  have hin := hin rfl
  unfold fX7_init at hf
  have hkS : K.2.2.2.1.heap.size = kS K := rfl
  have e1 : 0 + mc = mc := Nat.zero_add _
  have e2 : 0 + ms = ms := Nat.zero_add _
  have e3 : kS K = kS K + 0 := rfl
  refine V.start (L' := [(0, .ref a0)]) rfl ?_
  refine V.aload_n (pc := 0) C dX7_init_0 0 rfl ?_
  refine V.objInit (pc := 1) C wd_131 wd_25 wd_26 (Nat.le_of_ble_eq_true rfl) ⟨Nat.le_of_ble_eq_true rfl, Nat.le_of_ble_eq_true rfl⟩ dX7_init_1 ?_
  refine V.aload_n (pc := 4) C dX7_init_4 0 rfl ?_
  refine V.iconst (pc := 5) C dX7_init_5 (v := (0 : Int32)) (by decide) ?_
  replace hf := ob_some hf
  obtain ⟨g1, h2, hf⟩ := hf
  refine V.putX (pc := 6) C kX7 (k := 0) (by decide) wd_132 rfl rfl rfl h2 dX7_init_6 ?_
  refine V.aload_n (pc := 9) C dX7_init_9 0 rfl ?_
  refine V.iconst (pc := 10) C dX7_init_10 (v := (1 : Int32)) (by decide) ?_
  replace hf := ob_some hf
  obtain ⟨g3, h4, hf⟩ := hf
  refine V.putX (pc := 11) C kX7 (k := 1) (by decide) wd_134 rfl rfl rfl h4 dX7_init_11 ?_
  refine V.aload_n (pc := 14) C dX7_init_14 0 rfl ?_
  refine V.iconst (pc := 15) C dX7_init_15 (v := (0 : Int32)) (by decide) ?_
  replace hf := ob_some hf
  obtain ⟨g5, h6, hf⟩ := hf
  refine V.putX (pc := 16) C kX7 (k := 2) (by decide) wd_136 rfl rfl rfl h6 dX7_init_16 ?_
  refine V.aload_n (pc := 19) C dX7_init_19 0 rfl ?_
  refine V.iconst (pc := 20) C dX7_init_20 (v := (2 : Int32)) (by decide) ?_
  replace hf := ob_some hf
  obtain ⟨g7, h8, hf⟩ := hf
  refine V.putX (pc := 21) C kX7 (k := 3) (by decide) wd_139 rfl rfl rfl h8 dX7_init_21 ?_
  refine V.aload_n (pc := 24) C dX7_init_24 0 rfl ?_
  refine V.iconst (pc := 25) C dX7_init_25 (v := (0 : Int32)) (by decide) ?_
  replace hf := ob_some hf
  obtain ⟨g9, h10, hf⟩ := hf
  refine V.putX (pc := 26) C kX7 (k := 4) (by decide) wd_140 rfl rfl rfl h10 dX7_init_26 ?_
  refine V.aload_n (pc := 29) C dX7_init_29 0 rfl ?_
  refine V.bipush (pc := 30) C dX7_init_30 (v := (60 : Int32)) (by decide) ?_
  replace hf := bmp_some hf
  obtain ⟨b11, b12, hf, h13, h14⟩ := hf
  refine V.newI (pc := 32) (M := 60) C wd_106 (by decide) (by decide) (by decide) (by show _ ≤ mc; omega) (by show _ ≤ ms; omega) dX7_init_32 ?_
  replace hf := ob_some hf
  obtain ⟨g16, h17, hf⟩ := hf
  refine V.putF (pc := 34) C kX7 (k := 5) (by decide) wd_141 rfl hin rfl rfl rfl h17 dX7_init_34 ?_
  obtain ⟨f1, f2, f3, f4⟩ := fin4 hf
  clear hf
  subst f1
  subst f2
  refine V.cast (c := mc) (s := ms) (by omega) (by omega) ?_
  exact V.vret (pc := 37) C (by omega) dX7_init_37
theorem dX7_place_0 : decode cX7_place 0 = .ok (.aload_n 0, 1) := by decide +kernel
theorem dX7_place_1 : decode cX7_place 1 = .ok (.iload_n 1, 1) := by decide +kernel
theorem dX7_place_2 : decode cX7_place 2 = .ok (.putfield 21, 3) := by decide +kernel
theorem dX7_place_5 : decode cX7_place 5 = .ok (.aload_n 0, 1) := by decide +kernel
theorem dX7_place_6 : decode cX7_place 6 = .ok (.iload_n 2, 1) := by decide +kernel
theorem dX7_place_7 : decode cX7_place 7 = .ok (.putfield 9, 3) := by decide +kernel
theorem dX7_place_10 : decode cX7_place 10 = .ok (.aload_n 0, 1) := by decide +kernel
theorem dX7_place_11 : decode cX7_place 11 = .ok (.iload_n 3, 1) := by decide +kernel
theorem dX7_place_12 : decode cX7_place 12 = .ok (.putfield 15, 3) := by decide +kernel
theorem dX7_place_15 : decode cX7_place 15 = .ok (.return_, 1) := by decide +kernel
def fX7_place (g : PH) (a0 : Nat) (a1 : Int32) (a2 : Int32) (a3 : Int32) : Option (Unit × PH) :=
  okb (isO g a0 7) ((putV g a0 7 3 (.int a1)).bind fun g1 =>
  ((putV g1 a0 7 0 (.int a2)).bind fun g3 =>
  ((putV g3 a0 7 1 (.int a3)).bind fun g5 =>
  (some ((), g5)))))
theorem oX7_place {g : PH} {a0 : Nat} {a1 : Int32} {a2 : Int32} {a3 : Int32} {q : (Unit × PH)} (h : fX7_place g a0 a1 a2 a3 = some q) : isO g a0 7 = true := by unfold fX7_place at h; exact (okb_some h).1
theorem hyX7_place : hMet yX7_place RX7 cX7_place 4 none 3 := ⟨wd_581, wd_579, wd_580, wd_5, rfl, by decide +kernel, by decide +kernel, by decide +kernel⟩
set_option maxHeartbeats 4000000 in
set_option maxRecDepth 100000 in
theorem mX7_place (l : Launch) (E : HE) (sz : Nat) {g g' : PH} {a0 : Nat} {a1 : Int32} {a2 : Int32} {a3 : Int32} {r : Unit} (hf : fX7_place g a0 a1 a2 a3 = some (r, g')) : hM l E yX7_place cX7_place 4 none 0 0 0 0 sz g [.ref a0, .int a1, .int a2, .int a3] none g' := by
  refine hM.of (by decide) (Nat.le_of_ble_eq_true rfl) (fun K hl C hin hsz => ?_)
  subst hl
  subst hsz
  have C : VC K E 4 cX7_place RX7 none := C
  unfold fX7_place at hf
  replace hf := okb_some hf
  obtain ⟨ho, hf⟩ := hf
  refine V.start (L' := [(0, .ref a0), (1, .int a1), (2, .int a2), (3, .int a3)]) rfl ?_
  refine V.aload_n (pc := 0) C dX7_place_0 0 rfl ?_
  refine V.iload_n (pc := 1) C dX7_place_1 1 rfl ?_
  replace hf := ob_some hf
  obtain ⟨g1, h2, hf⟩ := hf
  refine V.putX (pc := 2) C kX7 (k := 3) (by decide) wd_139 rfl rfl rfl h2 dX7_place_2 ?_
  refine V.aload_n (pc := 5) C dX7_place_5 0 rfl ?_
  refine V.iload_n (pc := 6) C dX7_place_6 2 rfl ?_
  replace hf := ob_some hf
  obtain ⟨g3, h4, hf⟩ := hf
  refine V.putX (pc := 7) C kX7 (k := 0) (by decide) wd_132 rfl rfl rfl h4 dX7_place_7 ?_
  refine V.aload_n (pc := 10) C dX7_place_10 0 rfl ?_
  refine V.iload_n (pc := 11) C dX7_place_11 3 rfl ?_
  replace hf := ob_some hf
  obtain ⟨g5, h6, hf⟩ := hf
  refine V.putX (pc := 12) C kX7 (k := 1) (by decide) wd_134 rfl rfl rfl h6 dX7_place_12 ?_
  obtain ⟨f1, f2⟩ := fin2 hf
  clear hf
  subst f1
  subst f2
  exact V.vret (pc := 15) C rfl dX7_place_15
theorem dX7_rank_0 : decode cX7_rank 0 = .ok (.iload_n 1, 1) := by decide +kernel
theorem dX7_rank_1 : decode cX7_rank 1 = .ok (.ifCond .ne 10, 3) := by decide +kernel
theorem dX7_rank_4 : decode cX7_rank 4 = .ok (.aload_n 0, 1) := by decide +kernel
theorem dX7_rank_5 : decode cX7_rank 5 = .ok (.getfield 15, 3) := by decide +kernel
theorem dX7_rank_8 : decode cX7_rank 8 = .ok (.goto 7, 3) := by decide +kernel
theorem dX7_rank_11 : decode cX7_rank 11 = .ok (.aload_n 0, 1) := by decide +kernel
theorem dX7_rank_12 : decode cX7_rank 12 = .ok (.getfield 9, 3) := by decide +kernel
theorem dX7_rank_15 : decode cX7_rank 15 = .ok (.istore_n 3, 1) := by decide +kernel
theorem dX7_rank_16 : decode cX7_rank 16 = .ok (.iload_n 2, 1) := by decide +kernel
theorem dX7_rank_17 : decode cX7_rank 17 = .ok (.ifCond .eq 14, 3) := by decide +kernel
theorem dX7_rank_20 : decode cX7_rank 20 = .ok (.aload_n 0, 1) := by decide +kernel
theorem dX7_rank_21 : decode cX7_rank 21 = .ok (.getfield 21, 3) := by decide +kernel
theorem dX7_rank_24 : decode cX7_rank 24 = .ok (.iconst 1, 1) := by decide +kernel
theorem dX7_rank_25 : decode cX7_rank 25 = .ok (.isub, 1) := by decide +kernel
theorem dX7_rank_26 : decode cX7_rank 26 = .ok (.iload_n 3, 1) := by decide +kernel
theorem dX7_rank_27 : decode cX7_rank 27 = .ok (.isub, 1) := by decide +kernel
theorem dX7_rank_28 : decode cX7_rank 28 = .ok (.goto 4, 3) := by decide +kernel
theorem dX7_rank_31 : decode cX7_rank 31 = .ok (.iload_n 3, 1) := by decide +kernel
theorem dX7_rank_32 : decode cX7_rank 32 = .ok (.ireturn, 1) := by decide +kernel
def fX7_rank_15  (g : PH) (v0 : Nat) (v2 : Int32) (s0 : Int32) : Option (Int32 × PH) :=
  if v2 = 0 then (some (s0, g)) else
  ((getI g v0 7 3).bind fun x2 =>
  (some (((x2 - (1 : Int32)) - s0), g)))
set_option maxHeartbeats 4000000 in
set_option maxRecDepth 100000 in
theorem bX7_rank_15 {K : HK} {E : HE} {r : Int32} {g' : PH}  (C : VC K E 4 cX7_rank RX7 (some .int))  {g : PH} {v0 : Nat} {v2 : Int32} {s0 : Int32} (hf : fX7_rank_15  g v0 v2 s0 = some (r, g')) : V K E (hRm 0 0 0 0) 4 (hZ K E (some (.int r)) g' 0 0) 0 0 (kS K) g 15 [(0, .ref v0), (2, .int v2)] [.int s0] := by
  unfold fX7_rank_15 at hf
  refine V.istore_n (pc := 15) (L' := [(3, .int s0), (0, .ref v0), (2, .int v2)]) C dX7_rank_15 (by decide) rfl ?_
  refine V.iload_n (pc := 16) C dX7_rank_16 2 rfl ?_
  refine V.if_eq (pc := 17) (t := 31) C dX7_rank_17 (by decide) (fun c1 => ?_) (fun c1 => ?_)
  · replace hf := ite_t c1 hf
    refine V.iload_n (pc := 31) C dX7_rank_31 0 rfl ?_
    obtain ⟨f1, f2⟩ := fin2 hf
    clear hf
    subst f1
    subst f2
    exact V.iret (pc := 32) C rfl dX7_rank_32
  replace hf := ite_f c1 hf
  refine V.aload_n (pc := 20) C dX7_rank_20 1 rfl ?_
  replace hf := ob_some hf
  obtain ⟨x2, h3, hf⟩ := hf
  refine V.getI (pc := 21) C kX7 (k := 3) (by decide) wd_139 h3 dX7_rank_21 ?_
  refine V.iconst (pc := 24) C dX7_rank_24 (v := (1 : Int32)) (by decide) ?_
  refine V.isub (pc := 25) C dX7_rank_25 ?_
  refine V.iload_n (pc := 26) C dX7_rank_26 0 rfl ?_
  refine V.isub (pc := 27) C dX7_rank_27 ?_
  refine V.goto (pc := 28) (t := 32) C dX7_rank_28 (by decide) ?_
  obtain ⟨f1, f2⟩ := fin2 hf
  clear hf
  subst f1
  subst f2
  exact V.iret (pc := 32) C rfl dX7_rank_32
def fX7_rank (g : PH) (a0 : Nat) (a1 : Int32) (a2 : Int32) : Option (Int32 × PH) :=
  okb (isO g a0 7) (if a1 = 0 then ((getI g a0 7 1).bind fun x4 =>
  (fX7_rank_15 g a0 a2 x4)) else
  ((getI g a0 7 0).bind fun x2 =>
  (fX7_rank_15 g a0 a2 x2)))
theorem oX7_rank {g : PH} {a0 : Nat} {a1 : Int32} {a2 : Int32} {q : (Int32 × PH)} (h : fX7_rank g a0 a1 a2 = some q) : isO g a0 7 = true := by unfold fX7_rank at h; exact (okb_some h).1
theorem hyX7_rank : hMet yX7_rank RX7 cX7_rank 4 (some .int) 2 := ⟨wd_607, wd_606, ws_19, wd_5, rfl, by decide +kernel, by decide +kernel, by decide +kernel⟩
set_option maxHeartbeats 4000000 in
set_option maxRecDepth 100000 in
theorem mX7_rank (l : Launch) (E : HE) (sz : Nat) {g g' : PH} {a0 : Nat} {a1 : Int32} {a2 : Int32} {r : Int32} (hf : fX7_rank g a0 a1 a2 = some (r, g')) : hM l E yX7_rank cX7_rank 4 (some .int) 0 0 0 0 sz g [.ref a0, .int a1, .int a2] (some (.int r)) g' := by
  refine hM.of (by decide) (Nat.le_of_ble_eq_true rfl) (fun K hl C hin hsz => ?_)
  subst hl
  subst hsz
  have C : VC K E 4 cX7_rank RX7 (some .int) := C
  unfold fX7_rank at hf
  replace hf := okb_some hf
  obtain ⟨ho, hf⟩ := hf
  refine V.start (L' := [(0, .ref a0), (1, .int a1), (2, .int a2)]) rfl ?_
  refine V.iload_n (pc := 0) C dX7_rank_0 1 rfl ?_
  refine V.if_ne (pc := 1) (t := 11) C dX7_rank_1 (by decide) (fun c1 => ?_) (fun c1 => ?_)
  · replace hf := ite_f c1 hf
    refine V.aload_n (pc := 11) C dX7_rank_11 0 rfl ?_
    replace hf := ob_some hf
    obtain ⟨x2, h3, hf⟩ := hf
    refine V.getI (pc := 12) C kX7 (k := 0) (by decide) wd_132 h3 dX7_rank_12 ?_
    refine V.sub (L' := [(0, .ref a0), (2, .int a2)]) [0, 2] rfl ?_
    exact bX7_rank_15 C  hf
  replace hf := ite_t c1 hf
  refine V.aload_n (pc := 4) C dX7_rank_4 0 rfl ?_
  replace hf := ob_some hf
  obtain ⟨x4, h5, hf⟩ := hf
  refine V.getI (pc := 5) C kX7 (k := 1) (by decide) wd_134 h5 dX7_rank_5 ?_
  refine V.goto (pc := 8) (t := 15) C dX7_rank_8 (by decide) ?_
  refine V.sub (L' := [(0, .ref a0), (2, .int a2)]) [0, 2] rfl ?_
  exact bX7_rank_15 C  hf
theorem dX7_note_0 : decode cX7_note 0 = .ok (.aload_n 0, 1) := by decide +kernel
theorem dX7_note_1 : decode cX7_note 1 = .ok (.getfield 18, 3) := by decide +kernel
theorem dX7_note_4 : decode cX7_note 4 = .ok (.bipush 60, 2) := by decide +kernel
theorem dX7_note_6 : decode cX7_note 6 = .ok (.if_icmp .ge 13, 3) := by decide +kernel
theorem dX7_note_9 : decode cX7_note 9 = .ok (.aload_n 0, 1) := by decide +kernel
theorem dX7_note_10 : decode cX7_note 10 = .ok (.getfield 27, 3) := by decide +kernel
theorem dX7_note_13 : decode cX7_note 13 = .ok (.aload_n 0, 1) := by decide +kernel
theorem dX7_note_14 : decode cX7_note 14 = .ok (.getfield 18, 3) := by decide +kernel
theorem dX7_note_17 : decode cX7_note 17 = .ok (.iload_n 1, 1) := by decide +kernel
theorem dX7_note_18 : decode cX7_note 18 = .ok (.iastore, 1) := by decide +kernel
theorem dX7_note_19 : decode cX7_note 19 = .ok (.aload_n 0, 1) := by decide +kernel
theorem dX7_note_20 : decode cX7_note 20 = .ok (.dup, 1) := by decide +kernel
theorem dX7_note_21 : decode cX7_note 21 = .ok (.getfield 18, 3) := by decide +kernel
theorem dX7_note_24 : decode cX7_note 24 = .ok (.iconst 1, 1) := by decide +kernel
theorem dX7_note_25 : decode cX7_note 25 = .ok (.iadd, 1) := by decide +kernel
theorem dX7_note_26 : decode cX7_note 26 = .ok (.putfield 18, 3) := by decide +kernel
theorem dX7_note_29 : decode cX7_note 29 = .ok (.return_, 1) := by decide +kernel
def fX7_note (g : PH) (a0 : Nat) (a1 : Int32) : Option (Unit × PH) :=
  okb (isO g a0 7) ((getI g a0 7 2).bind fun x1 =>
  (if (60 : Int32) ≤ x1 then ((getI g a0 7 2).bind fun x4 =>
  ((putV g a0 7 2 (.int (x4 + (1 : Int32)))).bind fun g6 =>
  (some ((), g6)))) else
  ((getR g a0 7 5).bind fun p8 =>
  ((getI g a0 7 2).bind fun x10 =>
  ((stI g p8 0 x10 a1).bind fun g12 =>
  ((getI g12 a0 7 2).bind fun x14 =>
  ((putV g12 a0 7 2 (.int (x14 + (1 : Int32)))).bind fun g16 =>
  (some ((), g16)))))))))
theorem oX7_note {g : PH} {a0 : Nat} {a1 : Int32} {q : (Unit × PH)} (h : fX7_note g a0 a1 = some q) : isO g a0 7 = true := by unfold fX7_note at h; exact (okb_some h).1
theorem hyX7_note : hMet yX7_note RX7 cX7_note 2 none 1 := ⟨wd_625, wd_624, ws_21, wd_5, rfl, by decide +kernel, by decide +kernel, by decide +kernel⟩
set_option maxHeartbeats 4000000 in
set_option maxRecDepth 100000 in
theorem mX7_note (l : Launch) (E : HE) (sz : Nat) {g g' : PH} {a0 : Nat} {a1 : Int32} {r : Unit} (hf : fX7_note g a0 a1 = some (r, g')) : hM l E yX7_note cX7_note 2 none 0 0 0 0 sz g [.ref a0, .int a1] none g' := by
  refine hM.of (by decide) (Nat.le_of_ble_eq_true rfl) (fun K hl C hin hsz => ?_)
  subst hl
  subst hsz
  have C : VC K E 2 cX7_note RX7 none := C
  unfold fX7_note at hf
  replace hf := okb_some hf
  obtain ⟨ho, hf⟩ := hf
  refine V.start (L' := [(0, .ref a0), (1, .int a1)]) rfl ?_
  refine V.aload_n (pc := 0) C dX7_note_0 0 rfl ?_
  replace hf := ob_some hf
  obtain ⟨x1, h2, hf⟩ := hf
  refine V.getI (pc := 1) C kX7 (k := 2) (by decide) wd_136 h2 dX7_note_1 ?_
  refine V.bipush (pc := 4) C dX7_note_4 (v := (60 : Int32)) (by decide) ?_
  refine V.icmp_ge (pc := 6) (t := 19) C dX7_note_6 (by decide) (fun c3 => ?_) (fun c3 => ?_)
  · replace hf := ite_t c3 hf
    refine V.aload_n (pc := 19) C dX7_note_19 0 rfl ?_
    refine V.dup (pc := 20) C dX7_note_20 rfl ?_
    replace hf := ob_some hf
    obtain ⟨x4, h5, hf⟩ := hf
    refine V.getI (pc := 21) C kX7 (k := 2) (by decide) wd_136 h5 dX7_note_21 ?_
    refine V.iconst (pc := 24) C dX7_note_24 (v := (1 : Int32)) (by decide) ?_
    refine V.iadd (pc := 25) C dX7_note_25 ?_
    replace hf := ob_some hf
    obtain ⟨g6, h7, hf⟩ := hf
    refine V.putX (pc := 26) C kX7 (k := 2) (by decide) wd_136 rfl rfl rfl h7 dX7_note_26 ?_
    obtain ⟨f1, f2⟩ := fin2 hf
    clear hf
    subst f1
    subst f2
    exact V.vret (pc := 29) C rfl dX7_note_29
  replace hf := ite_f c3 hf
  refine V.aload_n (pc := 9) C dX7_note_9 0 rfl ?_
  replace hf := ob_some hf
  obtain ⟨p8, h9, hf⟩ := hf
  refine V.getR (pc := 10) C kX7 (k := 5) (by decide) wd_141 h9 dX7_note_10 ?_
  refine V.aload_n (pc := 13) C dX7_note_13 0 rfl ?_
  replace hf := ob_some hf
  obtain ⟨x10, h11, hf⟩ := hf
  refine V.getI (pc := 14) C kX7 (k := 2) (by decide) wd_136 h11 dX7_note_14 ?_
  refine V.iload_n (pc := 17) C dX7_note_17 1 rfl ?_
  replace hf := ob_some hf
  obtain ⟨g12, h13, hf⟩ := hf
  refine V.iast (pc := 18) C h13 dX7_note_18 ?_
  refine V.aload_n (pc := 19) C dX7_note_19 0 rfl ?_
  refine V.dup (pc := 20) C dX7_note_20 rfl ?_
  replace hf := ob_some hf
  obtain ⟨x14, h15, hf⟩ := hf
  refine V.getI (pc := 21) C kX7 (k := 2) (by decide) wd_136 h15 dX7_note_21 ?_
  refine V.iconst (pc := 24) C dX7_note_24 (v := (1 : Int32)) (by decide) ?_
  refine V.iadd (pc := 25) C dX7_note_25 ?_
  replace hf := ob_some hf
  obtain ⟨g16, h17, hf⟩ := hf
  refine V.putX (pc := 26) C kX7 (k := 2) (by decide) wd_136 rfl rfl rfl h17 dX7_note_26 ?_
  obtain ⟨f1, f2⟩ := fin2 hf
  clear hf
  subst f1
  subst f2
  exact V.vret (pc := 29) C rfl dX7_note_29
theorem dX7_visit_0 : decode cX7_visit 0 = .ok (.iload 5, 2) := by decide +kernel
theorem dX7_visit_2 : decode cX7_visit 2 = .ok (.istore 6, 2) := by decide +kernel
theorem dX7_visit_4 : decode cX7_visit 4 = .ok (.iconst 0, 1) := by decide +kernel
theorem dX7_visit_5 : decode cX7_visit 5 = .ok (.istore 7, 2) := by decide +kernel
theorem dX7_visit_7 : decode cX7_visit 7 = .ok (.iload 7, 2) := by decide +kernel
theorem dX7_visit_9 : decode cX7_visit 9 = .ok (.aload_n 2, 1) := by decide +kernel
theorem dX7_visit_10 : decode cX7_visit 10 = .ok (.iload_n 3, 1) := by decide +kernel
theorem dX7_visit_11 : decode cX7_visit 11 = .ok (.invokevirtual 57, 3) := by decide +kernel
theorem dX7_visit_14 : decode cX7_visit 14 = .ok (.if_icmp .ge 79, 3) := by decide +kernel
theorem dX7_visit_17 : decode cX7_visit 17 = .ok (.aload_n 2, 1) := by decide +kernel
theorem dX7_visit_18 : decode cX7_visit 18 = .ok (.iload_n 3, 1) := by decide +kernel
theorem dX7_visit_19 : decode cX7_visit 19 = .ok (.iload 7, 2) := by decide +kernel
theorem dX7_visit_21 : decode cX7_visit 21 = .ok (.invokevirtual 60, 3) := by decide +kernel
theorem dX7_visit_24 : decode cX7_visit 24 = .ok (.istore 8, 2) := by decide +kernel
theorem dX7_visit_26 : decode cX7_visit 26 = .ok (.iload 8, 2) := by decide +kernel
theorem dX7_visit_28 : decode cX7_visit 28 = .ok (.iconst 2, 1) := by decide +kernel
theorem dX7_visit_29 : decode cX7_visit 29 = .ok (.if_icmp .ge 7, 3) := by decide +kernel
theorem dX7_visit_32 : decode cX7_visit 32 = .ok (.iconst 0, 1) := by decide +kernel
theorem dX7_visit_33 : decode cX7_visit 33 = .ok (.goto 7, 3) := by decide +kernel
theorem dX7_visit_36 : decode cX7_visit 36 = .ok (.iload 8, 2) := by decide +kernel
theorem dX7_visit_38 : decode cX7_visit 38 = .ok (.iconst 1, 1) := by decide +kernel
theorem dX7_visit_39 : decode cX7_visit 39 = .ok (.isub, 1) := by decide +kernel
theorem dX7_visit_40 : decode cX7_visit 40 = .ok (.istore 9, 2) := by decide +kernel
theorem dX7_visit_42 : decode cX7_visit 42 = .ok (.aload_n 1, 1) := by decide +kernel
theorem dX7_visit_43 : decode cX7_visit 43 = .ok (.iload 4, 2) := by decide +kernel
theorem dX7_visit_45 : decode cX7_visit 45 = .ok (.iload 9, 2) := by decide +kernel
theorem dX7_visit_47 : decode cX7_visit 47 = .ok (.aload_n 0, 1) := by decide +kernel
theorem dX7_visit_48 : decode cX7_visit 48 = .ok (.getfield 24, 3) := by decide +kernel
theorem dX7_visit_51 : decode cX7_visit 51 = .ok (.invokevirtual 64, 3) := by decide +kernel
theorem dX7_visit_54 : decode cX7_visit 54 = .ok (.istore 10, 2) := by decide +kernel
theorem dX7_visit_56 : decode cX7_visit 56 = .ok (.aload_n 0, 1) := by decide +kernel
theorem dX7_visit_57 : decode cX7_visit 57 = .ok (.iload 10, 2) := by decide +kernel
theorem dX7_visit_59 : decode cX7_visit 59 = .ok (.iconst 3, 1) := by decide +kernel
theorem dX7_visit_60 : decode cX7_visit 60 = .ok (.iand, 1) := by decide +kernel
theorem dX7_visit_61 : decode cX7_visit 61 = .ok (.putfield 24, 3) := by decide +kernel
theorem dX7_visit_64 : decode cX7_visit 64 = .ok (.iload 9, 2) := by decide +kernel
theorem dX7_visit_66 : decode cX7_visit 66 = .ok (.ifCond .ne 21, 3) := by decide +kernel
theorem dX7_visit_69 : decode cX7_visit 69 = .ok (.iload 10, 2) := by decide +kernel
theorem dX7_visit_71 : decode cX7_visit 71 = .ok (.iconst 2, 1) := by decide +kernel
theorem dX7_visit_72 : decode cX7_visit 72 = .ok (.ishr, 1) := by decide +kernel
theorem dX7_visit_73 : decode cX7_visit 73 = .ok (.iload 8, 2) := by decide +kernel
theorem dX7_visit_75 : decode cX7_visit 75 = .ok (.if_icmp .eq 9, 3) := by decide +kernel
theorem dX7_visit_78 : decode cX7_visit 78 = .ok (.aload_n 0, 1) := by decide +kernel
theorem dX7_visit_79 : decode cX7_visit 79 = .ok (.iload 6, 2) := by decide +kernel
theorem dX7_visit_81 : decode cX7_visit 81 = .ok (.invokevirtual 68, 3) := by decide +kernel
theorem dX7_visit_84 : decode cX7_visit 84 = .ok (.iinc 6 1, 3) := by decide +kernel
theorem dX7_visit_87 : decode cX7_visit 87 = .ok (.iinc 7 1, 3) := by decide +kernel
theorem dX7_visit_90 : decode cX7_visit 90 = .ok (.goto (-83), 3) := by decide +kernel
theorem dX7_visit_93 : decode cX7_visit 93 = .ok (.return_, 1) := by decide +kernel
def fX7_visit_87 (k7 : PH → Nat → Nat → Nat → Int32 → Int32 → Int32 → Int32 → Option (Unit × PH)) (g : PH) (v0 : Nat) (v1 : Nat) (v2 : Nat) (v3 : Int32) (v4 : Int32) (v6 : Int32) (v7 : Int32) : Option (Unit × PH) :=
  k7 g v0 v1 v2 v3 v4 v6 (v7 + (1 : Int32))
set_option maxHeartbeats 4000000 in
set_option maxRecDepth 100000 in
theorem bX7_visit_87 {K : HK} {E : HE} {r : Unit} {g' : PH} {k7 : PH → Nat → Nat → Nat → Int32 → Int32 → Int32 → Int32 → Option (Unit × PH)} (C : VC K E 11 cX7_visit RX7 none) (hk7 : ∀ (g : PH) (v0 : Nat) (v1 : Nat) (v2 : Nat) (v3 : Int32) (v4 : Int32) (v6 : Int32) (v7 : Int32), k7 g v0 v1 v2 v3 v4 v6 v7 = some (r, g') → V K E (hRm 1 24 0 0) 11 (hZ K E none g' 0 0) 0 0 (kS K) g 7 [(0, .ref v0), (1, .ref v1), (2, .ref v2), (3, .int v3), (4, .int v4), (6, .int v6), (7, .int v7)] []) {g : PH} {v0 : Nat} {v1 : Nat} {v2 : Nat} {v3 : Int32} {v4 : Int32} {v6 : Int32} {v7 : Int32} (hf : fX7_visit_87 k7 g v0 v1 v2 v3 v4 v6 v7 = some (r, g')) : V K E (hRm 1 24 0 0) 11 (hZ K E none g' 0 0) 0 0 (kS K) g 87 [(0, .ref v0), (1, .ref v1), (2, .ref v2), (3, .int v3), (4, .int v4), (6, .int v6), (7, .int v7)] [] := by
  unfold fX7_visit_87 at hf
  refine V.iinc (pc := 87) (v := (v7 + (1 : Int32))) (L' := [(7, .int (v7 + (1 : Int32))), (0, .ref v0), (1, .ref v1), (2, .ref v2), (3, .int v3), (4, .int v4), (6, .int v6)]) C dX7_visit_87 6 rfl rfl (by decide) rfl ?_
  refine V.goto (pc := 90) (t := 7) C dX7_visit_90 (by decide) ?_
  refine V.sub (L' := [(0, .ref v0), (1, .ref v1), (2, .ref v2), (3, .int v3), (4, .int v4), (6, .int v6), (7, .int (v7 + (1 : Int32)))]) [1, 2, 3, 4, 5, 6, 0] rfl ?_
  exact hk7 _ _ _ _ _ _ _ _ hf
def fX7_visit_84 (k7 : PH → Nat → Nat → Nat → Int32 → Int32 → Int32 → Int32 → Option (Unit × PH)) (g : PH) (v0 : Nat) (v1 : Nat) (v2 : Nat) (v3 : Int32) (v4 : Int32) (v6 : Int32) (v7 : Int32) : Option (Unit × PH) :=
  fX7_visit_87 (k7) g v0 v1 v2 v3 v4 (v6 + (1 : Int32)) v7
set_option maxHeartbeats 4000000 in
set_option maxRecDepth 100000 in
theorem bX7_visit_84 {K : HK} {E : HE} {r : Unit} {g' : PH} {k7 : PH → Nat → Nat → Nat → Int32 → Int32 → Int32 → Int32 → Option (Unit × PH)} (C : VC K E 11 cX7_visit RX7 none) (hk7 : ∀ (g : PH) (v0 : Nat) (v1 : Nat) (v2 : Nat) (v3 : Int32) (v4 : Int32) (v6 : Int32) (v7 : Int32), k7 g v0 v1 v2 v3 v4 v6 v7 = some (r, g') → V K E (hRm 1 24 0 0) 11 (hZ K E none g' 0 0) 0 0 (kS K) g 7 [(0, .ref v0), (1, .ref v1), (2, .ref v2), (3, .int v3), (4, .int v4), (6, .int v6), (7, .int v7)] []) {g : PH} {v0 : Nat} {v1 : Nat} {v2 : Nat} {v3 : Int32} {v4 : Int32} {v6 : Int32} {v7 : Int32} (hf : fX7_visit_84 k7 g v0 v1 v2 v3 v4 v6 v7 = some (r, g')) : V K E (hRm 1 24 0 0) 11 (hZ K E none g' 0 0) 0 0 (kS K) g 84 [(0, .ref v0), (1, .ref v1), (2, .ref v2), (3, .int v3), (4, .int v4), (6, .int v6), (7, .int v7)] [] := by
  unfold fX7_visit_84 at hf
  refine V.iinc (pc := 84) (v := (v6 + (1 : Int32))) (L' := [(6, .int (v6 + (1 : Int32))), (0, .ref v0), (1, .ref v1), (2, .ref v2), (3, .int v3), (4, .int v4), (7, .int v7)]) C dX7_visit_84 5 rfl rfl (by decide) rfl ?_
  refine V.sub (L' := [(0, .ref v0), (1, .ref v1), (2, .ref v2), (3, .int v3), (4, .int v4), (6, .int (v6 + (1 : Int32))), (7, .int v7)]) [1, 2, 3, 4, 5, 0, 6] rfl ?_
  exact bX7_visit_87 C hk7 hf
def fX7_visit_40 (k7 : PH → Nat → Nat → Nat → Int32 → Int32 → Int32 → Int32 → Option (Unit × PH)) (g : PH) (v0 : Nat) (v1 : Nat) (v2 : Nat) (v3 : Int32) (v4 : Int32) (v6 : Int32) (v7 : Int32) (v8 : Int32) (s0 : Int32) : Option (Unit × PH) :=
  (getI g v0 7 4).bind fun x1 =>
  ((fX1_outcomeOf g v1 v4 s0 x1).bind fun q3 =>
  ((putV q3.2 v0 7 4 (.int (q3.1 &&& (3 : Int32)))).bind fun g5 =>
  (if s0 = 0 then (if (q3.1 >>> ((2 : Int32) &&& 31)) = v8 then (fX7_visit_84 (k7) g5 v0 v1 v2 v3 v4 v6 v7) else
  ((fX7_note g5 v0 v6).bind fun q9 =>
  (fX7_visit_84 (k7) q9.2 v0 v1 v2 v3 v4 v6 v7))) else
  (fX7_visit_87 (k7) g5 v0 v1 v2 v3 v4 v6 v7))))
set_option maxHeartbeats 4000000 in
set_option maxRecDepth 100000 in
theorem bX7_visit_40 {K : HK} {E : HE} {r : Unit} {g' : PH} {k7 : PH → Nat → Nat → Nat → Int32 → Int32 → Int32 → Int32 → Option (Unit × PH)} (C : VC K E 11 cX7_visit RX7 none) (hk7 : ∀ (g : PH) (v0 : Nat) (v1 : Nat) (v2 : Nat) (v3 : Int32) (v4 : Int32) (v6 : Int32) (v7 : Int32), k7 g v0 v1 v2 v3 v4 v6 v7 = some (r, g') → V K E (hRm 1 24 0 0) 11 (hZ K E none g' 0 0) 0 0 (kS K) g 7 [(0, .ref v0), (1, .ref v1), (2, .ref v2), (3, .int v3), (4, .int v4), (6, .int v6), (7, .int v7)] []) {g : PH} {v0 : Nat} {v1 : Nat} {v2 : Nat} {v3 : Int32} {v4 : Int32} {v6 : Int32} {v7 : Int32} {v8 : Int32} {s0 : Int32} (hf : fX7_visit_40 k7 g v0 v1 v2 v3 v4 v6 v7 v8 s0 = some (r, g')) : V K E (hRm 1 24 0 0) 11 (hZ K E none g' 0 0) 0 0 (kS K) g 40 [(0, .ref v0), (1, .ref v1), (2, .ref v2), (3, .int v3), (4, .int v4), (6, .int v6), (7, .int v7), (8, .int v8)] [.int s0] := by
  unfold fX7_visit_40 at hf
  refine V.istore (pc := 40) (L' := [(9, .int s0), (0, .ref v0), (1, .ref v1), (2, .ref v2), (3, .int v3), (4, .int v4), (6, .int v6), (7, .int v7), (8, .int v8)]) C dX7_visit_40 (by decide) rfl ?_
  refine V.aload_n (pc := 42) C dX7_visit_42 2 rfl ?_
  refine V.iload (pc := 43) C dX7_visit_43 5 rfl ?_
  refine V.iload (pc := 45) C dX7_visit_45 0 rfl ?_
  refine V.aload_n (pc := 47) C dX7_visit_47 1 rfl ?_
  replace hf := ob_some hf
  obtain ⟨x1, h2, hf⟩ := hf
  refine V.getI (pc := 48) C kX7 (k := 4) (by decide) wd_140 h2 dX7_visit_48 ?_
  replace hf := ob_some hf
  obtain ⟨q3, h4, hf⟩ := hf
  refine V.callV0i (pc := 51) C hyX1_outcomeOf wd_618 (mX1_outcomeOf (r := q3.1) (g' := q3.2) K.2.1 E (kS K) h4) rfl rfl rfl (oX1_outcomeOf h4) ⟨Nat.le_of_ble_eq_true rfl, Nat.le_of_ble_eq_true rfl⟩ (Nat.le_of_ble_eq_true rfl) dX7_visit_51 ⟨Nat.zero_le _, Nat.zero_le _⟩ rfl ?_
  refine V.istore (pc := 54) (L' := [(10, .int q3.1), (9, .int s0), (0, .ref v0), (1, .ref v1), (2, .ref v2), (3, .int v3), (4, .int v4), (6, .int v6), (7, .int v7), (8, .int v8)]) C dX7_visit_54 (by decide) rfl ?_
  refine V.aload_n (pc := 56) C dX7_visit_56 2 rfl ?_
  refine V.iload (pc := 57) C dX7_visit_57 0 rfl ?_
  refine V.iconst (pc := 59) C dX7_visit_59 (v := (3 : Int32)) (by decide) ?_
  refine V.iand (pc := 60) C dX7_visit_60 ?_
  replace hf := ob_some hf
  obtain ⟨g5, h6, hf⟩ := hf
  refine V.putX (pc := 61) C kX7 (k := 4) (by decide) wd_140 rfl rfl rfl h6 dX7_visit_61 ?_
  refine V.iload (pc := 64) C dX7_visit_64 1 rfl ?_
  refine V.if_ne (pc := 66) (t := 87) C dX7_visit_66 (by decide) (fun c7 => ?_) (fun c7 => ?_)
  · replace hf := ite_f c7 hf
    refine V.sub (L' := [(0, .ref v0), (1, .ref v1), (2, .ref v2), (3, .int v3), (4, .int v4), (6, .int v6), (7, .int v7)]) [2, 3, 4, 5, 6, 7, 8] rfl ?_
    exact bX7_visit_87 C hk7 hf
  replace hf := ite_t c7 hf
  refine V.iload (pc := 69) C dX7_visit_69 0 rfl ?_
  refine V.iconst (pc := 71) C dX7_visit_71 (v := (2 : Int32)) (by decide) ?_
  refine V.ishr (pc := 72) C dX7_visit_72 ?_
  refine V.iload (pc := 73) C dX7_visit_73 9 rfl ?_
  refine V.icmp_eq (pc := 75) (t := 84) C dX7_visit_75 (by decide) (fun c8 => ?_) (fun c8 => ?_)
  · replace hf := ite_t c8 hf
    refine V.sub (L' := [(0, .ref v0), (1, .ref v1), (2, .ref v2), (3, .int v3), (4, .int v4), (6, .int v6), (7, .int v7)]) [2, 3, 4, 5, 6, 7, 8] rfl ?_
    exact bX7_visit_84 C hk7 hf
  replace hf := ite_f c8 hf
  refine V.aload_n (pc := 78) C dX7_visit_78 2 rfl ?_
  refine V.iload (pc := 79) C dX7_visit_79 7 rfl ?_
  replace hf := ob_some hf
  obtain ⟨q9, h10, hf⟩ := hf
  refine V.callV0v (pc := 81) C hyX7_note wd_622 (mX7_note (r := q9.1) (g' := q9.2) K.2.1 E (kS K) h10) rfl rfl rfl (oX7_note h10) ⟨Nat.le_of_ble_eq_true rfl, Nat.le_of_ble_eq_true rfl⟩ (Nat.le_of_ble_eq_true rfl) dX7_visit_81 ⟨Nat.zero_le _, Nat.zero_le _⟩ rfl ?_
  refine V.sub (L' := [(0, .ref v0), (1, .ref v1), (2, .ref v2), (3, .int v3), (4, .int v4), (6, .int v6), (7, .int v7)]) [2, 3, 4, 5, 6, 7, 8] rfl ?_
  exact bX7_visit_84 C hk7 hf
def fX7_visit_7  : Nat → PH → Nat → Nat → Nat → Int32 → Int32 → Int32 → Int32 → Option (Unit × PH)
  | 0, _, _, _, _, _, _, _, _ => none
  | n + 1, g, v0, v1, v2, v3, v4, v6, v7 =>
  (fX2_opsOf g v2 v3).bind fun q1 =>
  (if q1.1 ≤ v7 then (some ((), q1.2)) else
  ((fX2_opAt q1.2 v2 v3 v7).bind fun q4 =>
  (if (2 : Int32) ≤ q4.1 then (fX7_visit_40 (fX7_visit_7 n) q4.2 v0 v1 v2 v3 v4 v6 v7 q4.1 (q4.1 - (1 : Int32))) else
  (fX7_visit_40 (fX7_visit_7 n) q4.2 v0 v1 v2 v3 v4 v6 v7 q4.1 (0 : Int32)))))
set_option maxHeartbeats 4000000 in
set_option maxRecDepth 100000 in
theorem bX7_visit_7 {K : HK} {E : HE} {r : Unit} {g' : PH}  (C : VC K E 11 cX7_visit RX7 none)  : ∀ (n : Nat) (g : PH) (v0 : Nat) (v1 : Nat) (v2 : Nat) (v3 : Int32) (v4 : Int32) (v6 : Int32) (v7 : Int32), fX7_visit_7  n g v0 v1 v2 v3 v4 v6 v7 = some (r, g') → V K E (hRm 1 24 0 0) 11 (hZ K E none g' 0 0) 0 0 (kS K) g 7 [(0, .ref v0), (1, .ref v1), (2, .ref v2), (3, .int v3), (4, .int v4), (6, .int v6), (7, .int v7)] [] := by
  intro n
  induction n with
  | zero =>
    intro g v0 v1 v2 v3 v4 v6 v7 hf
    rw [fX7_visit_7] at hf
    cases hf
  | succ n ih =>
    intro g v0 v1 v2 v3 v4 v6 v7 hf
    rw [fX7_visit_7] at hf
    refine V.iload (pc := 7) C dX7_visit_7 6 rfl ?_
    refine V.aload_n (pc := 9) C dX7_visit_9 2 rfl ?_
    refine V.iload_n (pc := 10) C dX7_visit_10 3 rfl ?_
    replace hf := ob_some hf
    obtain ⟨q1, h2, hf⟩ := hf
    refine V.callV0i (pc := 11) C hyX2_opsOf wd_616 (mX2_opsOf (r := q1.1) (g' := q1.2) K.2.1 E (kS K) h2) rfl rfl rfl (oX2_opsOf h2) ⟨Nat.le_of_ble_eq_true rfl, Nat.le_of_ble_eq_true rfl⟩ (Nat.le_of_ble_eq_true rfl) dX7_visit_11 ⟨Nat.zero_le _, Nat.zero_le _⟩ rfl ?_
    refine V.icmp_ge (pc := 14) (t := 93) C dX7_visit_14 (by decide) (fun c3 => ?_) (fun c3 => ?_)
    · replace hf := ite_t c3 hf
      obtain ⟨f1, f2⟩ := fin2 hf
      clear hf
      subst f1
      subst f2
      exact V.vret (pc := 93) C rfl dX7_visit_93
    replace hf := ite_f c3 hf
    refine V.aload_n (pc := 17) C dX7_visit_17 2 rfl ?_
    refine V.iload_n (pc := 18) C dX7_visit_18 3 rfl ?_
    refine V.iload (pc := 19) C dX7_visit_19 6 rfl ?_
    replace hf := ob_some hf
    obtain ⟨q4, h5, hf⟩ := hf
    refine V.callV0i (pc := 21) C hyX2_opAt wd_617 (mX2_opAt (r := q4.1) (g' := q4.2) K.2.1 E (kS K) h5) rfl rfl rfl (oX2_opAt h5) ⟨Nat.le_of_ble_eq_true rfl, Nat.le_of_ble_eq_true rfl⟩ (Nat.le_of_ble_eq_true rfl) dX7_visit_21 ⟨Nat.zero_le _, Nat.zero_le _⟩ rfl ?_
    refine V.istore (pc := 24) (L' := [(8, .int q4.1), (0, .ref v0), (1, .ref v1), (2, .ref v2), (3, .int v3), (4, .int v4), (6, .int v6), (7, .int v7)]) C dX7_visit_24 (by decide) rfl ?_
    refine V.iload (pc := 26) C dX7_visit_26 0 rfl ?_
    refine V.iconst (pc := 28) C dX7_visit_28 (v := (2 : Int32)) (by decide) ?_
    refine V.icmp_ge (pc := 29) (t := 36) C dX7_visit_29 (by decide) (fun c6 => ?_) (fun c6 => ?_)
    · replace hf := ite_t c6 hf
      refine V.iload (pc := 36) C dX7_visit_36 0 rfl ?_
      refine V.iconst (pc := 38) C dX7_visit_38 (v := (1 : Int32)) (by decide) ?_
      refine V.isub (pc := 39) C dX7_visit_39 ?_
      refine V.sub (L' := [(0, .ref v0), (1, .ref v1), (2, .ref v2), (3, .int v3), (4, .int v4), (6, .int v6), (7, .int v7), (8, .int q4.1)]) [1, 2, 3, 4, 5, 6, 7, 0] rfl ?_
      exact bX7_visit_40 C ih hf
    replace hf := ite_f c6 hf
    refine V.iconst (pc := 32) C dX7_visit_32 (v := (0 : Int32)) (by decide) ?_
    refine V.goto (pc := 33) (t := 40) C dX7_visit_33 (by decide) ?_
    refine V.sub (L' := [(0, .ref v0), (1, .ref v1), (2, .ref v2), (3, .int v3), (4, .int v4), (6, .int v6), (7, .int v7), (8, .int q4.1)]) [1, 2, 3, 4, 5, 6, 7, 0] rfl ?_
    exact bX7_visit_40 C ih hf
def fX7_visit (g : PH) (a0 : Nat) (a1 : Nat) (a2 : Nat) (a3 : Int32) (a4 : Int32) (a5 : Int32) : Option (Unit × PH) :=
  okb (isO g a0 7) (fX7_visit_7 FUEL g a0 a1 a2 a3 a4 a5 (0 : Int32))
theorem oX7_visit {g : PH} {a0 : Nat} {a1 : Nat} {a2 : Nat} {a3 : Int32} {a4 : Int32} {a5 : Int32} {q : (Unit × PH)} (h : fX7_visit g a0 a1 a2 a3 a4 a5 = some q) : isO g a0 7 = true := by unfold fX7_visit at h; exact (okb_some h).1
theorem hyX7_visit : hMet yX7_visit RX7 cX7_visit 11 none 5 := ⟨wd_615, wd_614, ws_20, wd_5, rfl, by decide +kernel, by decide +kernel, by decide +kernel⟩
set_option maxHeartbeats 4000000 in
set_option maxRecDepth 100000 in
theorem mX7_visit (l : Launch) (E : HE) (sz : Nat) {g g' : PH} {a0 : Nat} {a1 : Nat} {a2 : Nat} {a3 : Int32} {a4 : Int32} {a5 : Int32} {r : Unit} (hf : fX7_visit g a0 a1 a2 a3 a4 a5 = some (r, g')) : hM l E yX7_visit cX7_visit 11 none 1 24 0 0 sz g [.ref a0, .ref a1, .ref a2, .int a3, .int a4, .int a5] none g' := by
  refine hM.of (by decide) (Nat.le_of_ble_eq_true rfl) (fun K hl C hin hsz => ?_)
  subst hl
  subst hsz
  have C : VC K E 11 cX7_visit RX7 none := C
  unfold fX7_visit at hf
  replace hf := okb_some hf
  obtain ⟨ho, hf⟩ := hf
  refine V.start (L' := [(0, .ref a0), (1, .ref a1), (2, .ref a2), (3, .int a3), (4, .int a4), (5, .int a5)]) rfl ?_
  refine V.iload (pc := 0) C dX7_visit_0 5 rfl ?_
  refine V.istore (pc := 2) (L' := [(6, .int a5), (0, .ref a0), (1, .ref a1), (2, .ref a2), (3, .int a3), (4, .int a4), (5, .int a5)]) C dX7_visit_2 (by decide) rfl ?_
  refine V.iconst (pc := 4) C dX7_visit_4 (v := (0 : Int32)) (by decide) ?_
  refine V.istore (pc := 5) (L' := [(7, .int (0 : Int32)), (6, .int a5), (0, .ref a0), (1, .ref a1), (2, .ref a2), (3, .int a3), (4, .int a4), (5, .int a5)]) C dX7_visit_5 (by decide) rfl ?_
  refine V.sub (L' := [(0, .ref a0), (1, .ref a1), (2, .ref a2), (3, .int a3), (4, .int a4), (6, .int a5), (7, .int (0 : Int32))]) [2, 3, 4, 5, 6, 1, 0] rfl ?_
  exact bX7_visit_7 C  _ _ _ _ _ _ _ _ _ hf
theorem dX7_go_0 : decode cX7_go 0 = .ok (.aload_n 0, 1) := by decide +kernel
theorem dX7_go_1 : decode cX7_go 1 = .ok (.iconst 0, 1) := by decide +kernel
theorem dX7_go_2 : decode cX7_go 2 = .ok (.putfield 18, 3) := by decide +kernel
theorem dX7_go_5 : decode cX7_go 5 = .ok (.aload_n 0, 1) := by decide +kernel
theorem dX7_go_6 : decode cX7_go 6 = .ok (.aload_n 1, 1) := by decide +kernel
theorem dX7_go_7 : decode cX7_go 7 = .ok (.iload_n 3, 1) := by decide +kernel
theorem dX7_go_8 : decode cX7_go 8 = .ok (.invokevirtual 31, 3) := by decide +kernel
theorem dX7_go_11 : decode cX7_go 11 = .ok (.putfield 24, 3) := by decide +kernel
theorem dX7_go_14 : decode cX7_go 14 = .ok (.iconst 0, 1) := by decide +kernel
theorem dX7_go_15 : decode cX7_go 15 = .ok (.istore 5, 2) := by decide +kernel
theorem dX7_go_17 : decode cX7_go 17 = .ok (.iconst 0, 1) := by decide +kernel
theorem dX7_go_18 : decode cX7_go 18 = .ok (.istore 6, 2) := by decide +kernel
theorem dX7_go_20 : decode cX7_go 20 = .ok (.iload 6, 2) := by decide +kernel
theorem dX7_go_22 : decode cX7_go 22 = .ok (.aload_n 2, 1) := by decide +kernel
theorem dX7_go_23 : decode cX7_go 23 = .ok (.getfield 37, 3) := by decide +kernel
theorem dX7_go_26 : decode cX7_go 26 = .ok (.if_icmp .ge 125, 3) := by decide +kernel
theorem dX7_go_29 : decode cX7_go 29 = .ok (.aload_n 2, 1) := by decide +kernel
theorem dX7_go_30 : decode cX7_go 30 = .ok (.iload 6, 2) := by decide +kernel
theorem dX7_go_32 : decode cX7_go 32 = .ok (.iload 4, 2) := by decide +kernel
theorem dX7_go_34 : decode cX7_go 34 = .ok (.invokevirtual 42, 3) := by decide +kernel
theorem dX7_go_37 : decode cX7_go 37 = .ok (.istore 7, 2) := by decide +kernel
theorem dX7_go_39 : decode cX7_go 39 = .ok (.aload_n 0, 1) := by decide +kernel
theorem dX7_go_40 : decode cX7_go 40 = .ok (.getfield 9, 3) := by decide +kernel
theorem dX7_go_43 : decode cX7_go 43 = .ok (.aload_n 0, 1) := by decide +kernel
theorem dX7_go_44 : decode cX7_go 44 = .ok (.getfield 15, 3) := by decide +kernel
theorem dX7_go_47 : decode cX7_go 47 = .ok (.if_icmp .ge 7, 3) := by decide +kernel
theorem dX7_go_50 : decode cX7_go 50 = .ok (.iconst 1, 1) := by decide +kernel
theorem dX7_go_51 : decode cX7_go 51 = .ok (.goto 4, 3) := by decide +kernel
theorem dX7_go_54 : decode cX7_go 54 = .ok (.iconst 0, 1) := by decide +kernel
theorem dX7_go_55 : decode cX7_go 55 = .ok (.iload 7, 2) := by decide +kernel
theorem dX7_go_57 : decode cX7_go 57 = .ok (.if_icmp .eq 7, 3) := by decide +kernel
theorem dX7_go_60 : decode cX7_go 60 = .ok (.iconst 1, 1) := by decide +kernel
theorem dX7_go_61 : decode cX7_go 61 = .ok (.goto 4, 3) := by decide +kernel
theorem dX7_go_64 : decode cX7_go 64 = .ok (.iconst 0, 1) := by decide +kernel
theorem dX7_go_65 : decode cX7_go 65 = .ok (.istore 8, 2) := by decide +kernel
theorem dX7_go_67 : decode cX7_go 67 = .ok (.aload_n 0, 1) := by decide +kernel
theorem dX7_go_68 : decode cX7_go 68 = .ok (.aload_n 1, 1) := by decide +kernel
theorem dX7_go_69 : decode cX7_go 69 = .ok (.aload_n 2, 1) := by decide +kernel
theorem dX7_go_70 : decode cX7_go 70 = .ok (.iload 6, 2) := by decide +kernel
theorem dX7_go_72 : decode cX7_go 72 = .ok (.iload 8, 2) := by decide +kernel
theorem dX7_go_74 : decode cX7_go 74 = .ok (.iload 5, 2) := by decide +kernel
theorem dX7_go_76 : decode cX7_go 76 = .ok (.aload_n 0, 1) := by decide +kernel
theorem dX7_go_77 : decode cX7_go 77 = .ok (.iload 8, 2) := by decide +kernel
theorem dX7_go_79 : decode cX7_go 79 = .ok (.iload 7, 2) := by decide +kernel
theorem dX7_go_81 : decode cX7_go 81 = .ok (.invokevirtual 46, 3) := by decide +kernel
theorem dX7_go_84 : decode cX7_go 84 = .ok (.aload_n 2, 1) := by decide +kernel
theorem dX7_go_85 : decode cX7_go 85 = .ok (.iload 6, 2) := by decide +kernel
theorem dX7_go_87 : decode cX7_go 87 = .ok (.invokevirtual 50, 3) := by decide +kernel
theorem dX7_go_90 : decode cX7_go 90 = .ok (.imul, 1) := by decide +kernel
theorem dX7_go_91 : decode cX7_go 91 = .ok (.iadd, 1) := by decide +kernel
theorem dX7_go_92 : decode cX7_go 92 = .ok (.invokevirtual 53, 3) := by decide +kernel
theorem dX7_go_95 : decode cX7_go 95 = .ok (.iconst 1, 1) := by decide +kernel
theorem dX7_go_96 : decode cX7_go 96 = .ok (.iload 8, 2) := by decide +kernel
theorem dX7_go_98 : decode cX7_go 98 = .ok (.isub, 1) := by decide +kernel
theorem dX7_go_99 : decode cX7_go 99 = .ok (.istore 9, 2) := by decide +kernel
theorem dX7_go_101 : decode cX7_go 101 = .ok (.aload_n 0, 1) := by decide +kernel
theorem dX7_go_102 : decode cX7_go 102 = .ok (.aload_n 1, 1) := by decide +kernel
theorem dX7_go_103 : decode cX7_go 103 = .ok (.aload_n 2, 1) := by decide +kernel
theorem dX7_go_104 : decode cX7_go 104 = .ok (.iload 6, 2) := by decide +kernel
theorem dX7_go_106 : decode cX7_go 106 = .ok (.iload 9, 2) := by decide +kernel
theorem dX7_go_108 : decode cX7_go 108 = .ok (.iload 5, 2) := by decide +kernel
theorem dX7_go_110 : decode cX7_go 110 = .ok (.aload_n 0, 1) := by decide +kernel
theorem dX7_go_111 : decode cX7_go 111 = .ok (.iload 9, 2) := by decide +kernel
theorem dX7_go_113 : decode cX7_go 113 = .ok (.iload 7, 2) := by decide +kernel
theorem dX7_go_115 : decode cX7_go 115 = .ok (.invokevirtual 46, 3) := by decide +kernel
theorem dX7_go_118 : decode cX7_go 118 = .ok (.aload_n 2, 1) := by decide +kernel
theorem dX7_go_119 : decode cX7_go 119 = .ok (.iload 6, 2) := by decide +kernel
theorem dX7_go_121 : decode cX7_go 121 = .ok (.invokevirtual 50, 3) := by decide +kernel
theorem dX7_go_124 : decode cX7_go 124 = .ok (.imul, 1) := by decide +kernel
theorem dX7_go_125 : decode cX7_go 125 = .ok (.iadd, 1) := by decide +kernel
theorem dX7_go_126 : decode cX7_go 126 = .ok (.invokevirtual 53, 3) := by decide +kernel
theorem dX7_go_129 : decode cX7_go 129 = .ok (.iload 5, 2) := by decide +kernel
theorem dX7_go_131 : decode cX7_go 131 = .ok (.aload_n 0, 1) := by decide +kernel
theorem dX7_go_132 : decode cX7_go 132 = .ok (.getfield 21, 3) := by decide +kernel
theorem dX7_go_135 : decode cX7_go 135 = .ok (.aload_n 2, 1) := by decide +kernel
theorem dX7_go_136 : decode cX7_go 136 = .ok (.iload 6, 2) := by decide +kernel
theorem dX7_go_138 : decode cX7_go 138 = .ok (.invokevirtual 50, 3) := by decide +kernel
theorem dX7_go_141 : decode cX7_go 141 = .ok (.imul, 1) := by decide +kernel
theorem dX7_go_142 : decode cX7_go 142 = .ok (.iadd, 1) := by decide +kernel
theorem dX7_go_143 : decode cX7_go 143 = .ok (.istore 5, 2) := by decide +kernel
theorem dX7_go_145 : decode cX7_go 145 = .ok (.iinc 6 1, 3) := by decide +kernel
theorem dX7_go_148 : decode cX7_go 148 = .ok (.goto (-128), 3) := by decide +kernel
theorem dX7_go_151 : decode cX7_go 151 = .ok (.aload_n 0, 1) := by decide +kernel
theorem dX7_go_152 : decode cX7_go 152 = .ok (.getfield 18, 3) := by decide +kernel
theorem dX7_go_155 : decode cX7_go 155 = .ok (.ireturn, 1) := by decide +kernel
def fX7_go_65 (k20 : PH → Nat → Nat → Nat → Int32 → Int32 → Int32 → Option (Int32 × PH)) (g : PH) (v0 : Nat) (v1 : Nat) (v2 : Nat) (v4 : Int32) (v5 : Int32) (v6 : Int32) (v7 : Int32) (s0 : Int32) : Option (Int32 × PH) :=
  (fX7_rank g v0 s0 v7).bind fun q1 =>
  ((fX2_readsOf q1.2 v2 v6).bind fun q3 =>
  ((fX7_visit q3.2 v0 v1 v2 v6 s0 (v5 + (q1.1 * q3.1))).bind fun q5 =>
  ((fX7_rank q5.2 v0 ((1 : Int32) - s0) v7).bind fun q7 =>
  ((fX2_readsOf q7.2 v2 v6).bind fun q9 =>
  ((fX7_visit q9.2 v0 v1 v2 v6 ((1 : Int32) - s0) (v5 + (q7.1 * q9.1))).bind fun q11 =>
  ((getI q11.2 v0 7 3).bind fun x13 =>
  ((fX2_readsOf q11.2 v2 v6).bind fun q15 =>
  (k20 q15.2 v0 v1 v2 v4 (v5 + (x13 * q15.1)) (v6 + (1 : Int32))))))))))
set_option maxHeartbeats 4000000 in
set_option maxRecDepth 100000 in
theorem bX7_go_65 {K : HK} {E : HE} {r : Int32} {g' : PH} {k20 : PH → Nat → Nat → Nat → Int32 → Int32 → Int32 → Option (Int32 × PH)} (C : VC K E 10 cX7_go RX7 (some .int)) (hk20 : ∀ (g : PH) (v0 : Nat) (v1 : Nat) (v2 : Nat) (v4 : Int32) (v5 : Int32) (v6 : Int32), k20 g v0 v1 v2 v4 v5 v6 = some (r, g') → V K E (hRm 2 54 0 0) 10 (hZ K E (some (.int r)) g' 0 0) 0 0 (kS K) g 20 [(0, .ref v0), (1, .ref v1), (2, .ref v2), (4, .int v4), (5, .int v5), (6, .int v6)] []) {g : PH} {v0 : Nat} {v1 : Nat} {v2 : Nat} {v4 : Int32} {v5 : Int32} {v6 : Int32} {v7 : Int32} {s0 : Int32} (hf : fX7_go_65 k20 g v0 v1 v2 v4 v5 v6 v7 s0 = some (r, g')) : V K E (hRm 2 54 0 0) 10 (hZ K E (some (.int r)) g' 0 0) 0 0 (kS K) g 65 [(0, .ref v0), (1, .ref v1), (2, .ref v2), (4, .int v4), (5, .int v5), (6, .int v6), (7, .int v7)] [.int s0] := by
  unfold fX7_go_65 at hf
  refine V.istore (pc := 65) (L' := [(8, .int s0), (0, .ref v0), (1, .ref v1), (2, .ref v2), (4, .int v4), (5, .int v5), (6, .int v6), (7, .int v7)]) C dX7_go_65 (by decide) rfl ?_
  refine V.aload_n (pc := 67) C dX7_go_67 1 rfl ?_
  refine V.aload_n (pc := 68) C dX7_go_68 2 rfl ?_
  refine V.aload_n (pc := 69) C dX7_go_69 3 rfl ?_
  refine V.iload (pc := 70) C dX7_go_70 6 rfl ?_
  refine V.iload (pc := 72) C dX7_go_72 0 rfl ?_
  refine V.iload (pc := 74) C dX7_go_74 5 rfl ?_
  refine V.aload_n (pc := 76) C dX7_go_76 1 rfl ?_
  refine V.iload (pc := 77) C dX7_go_77 0 rfl ?_
  refine V.iload (pc := 79) C dX7_go_79 7 rfl ?_
  replace hf := ob_some hf
  obtain ⟨q1, h2, hf⟩ := hf
  refine V.callV0i (pc := 81) C hyX7_rank wd_604 (mX7_rank (r := q1.1) (g' := q1.2) K.2.1 E (kS K) h2) rfl rfl rfl (oX7_rank h2) ⟨Nat.le_of_ble_eq_true rfl, Nat.le_of_ble_eq_true rfl⟩ (Nat.le_of_ble_eq_true rfl) dX7_go_81 ⟨Nat.zero_le _, Nat.zero_le _⟩ rfl ?_
  refine V.aload_n (pc := 84) C dX7_go_84 3 rfl ?_
  refine V.iload (pc := 85) C dX7_go_85 6 rfl ?_
  replace hf := ob_some hf
  obtain ⟨q3, h4, hf⟩ := hf
  refine V.callV0i (pc := 87) C hyX2_readsOf wd_608 (mX2_readsOf (r := q3.1) (g' := q3.2) K.2.1 E (kS K) h4) rfl rfl rfl (oX2_readsOf h4) ⟨Nat.le_of_ble_eq_true rfl, Nat.le_of_ble_eq_true rfl⟩ (Nat.le_of_ble_eq_true rfl) dX7_go_87 ⟨Nat.zero_le _, Nat.zero_le _⟩ rfl ?_
  refine V.imul (pc := 90) C dX7_go_90 ?_
  refine V.iadd (pc := 91) C dX7_go_91 ?_
  replace hf := ob_some hf
  obtain ⟨q5, h6, hf⟩ := hf
  refine V.callV0v (pc := 92) C hyX7_visit wd_612 (mX7_visit (r := q5.1) (g' := q5.2) K.2.1 E (kS K) h6) rfl rfl rfl (oX7_visit h6) ⟨Nat.le_of_ble_eq_true rfl, Nat.le_of_ble_eq_true rfl⟩ (Nat.le_of_ble_eq_true rfl) dX7_go_92 ⟨Nat.zero_le _, Nat.zero_le _⟩ rfl ?_
  refine V.iconst (pc := 95) C dX7_go_95 (v := (1 : Int32)) (by decide) ?_
  refine V.iload (pc := 96) C dX7_go_96 0 rfl ?_
  refine V.isub (pc := 98) C dX7_go_98 ?_
  refine V.istore (pc := 99) (L' := [(9, .int ((1 : Int32) - s0)), (8, .int s0), (0, .ref v0), (1, .ref v1), (2, .ref v2), (4, .int v4), (5, .int v5), (6, .int v6), (7, .int v7)]) C dX7_go_99 (by decide) rfl ?_
  refine V.aload_n (pc := 101) C dX7_go_101 2 rfl ?_
  refine V.aload_n (pc := 102) C dX7_go_102 3 rfl ?_
  refine V.aload_n (pc := 103) C dX7_go_103 4 rfl ?_
  refine V.iload (pc := 104) C dX7_go_104 7 rfl ?_
  refine V.iload (pc := 106) C dX7_go_106 0 rfl ?_
  refine V.iload (pc := 108) C dX7_go_108 6 rfl ?_
  refine V.aload_n (pc := 110) C dX7_go_110 2 rfl ?_
  refine V.iload (pc := 111) C dX7_go_111 0 rfl ?_
  refine V.iload (pc := 113) C dX7_go_113 8 rfl ?_
  replace hf := ob_some hf
  obtain ⟨q7, h8, hf⟩ := hf
  refine V.callV0i (pc := 115) C hyX7_rank wd_604 (mX7_rank (r := q7.1) (g' := q7.2) K.2.1 E (kS K) h8) rfl rfl rfl (oX7_rank h8) ⟨Nat.le_of_ble_eq_true rfl, Nat.le_of_ble_eq_true rfl⟩ (Nat.le_of_ble_eq_true rfl) dX7_go_115 ⟨Nat.zero_le _, Nat.zero_le _⟩ rfl ?_
  refine V.aload_n (pc := 118) C dX7_go_118 4 rfl ?_
  refine V.iload (pc := 119) C dX7_go_119 7 rfl ?_
  replace hf := ob_some hf
  obtain ⟨q9, h10, hf⟩ := hf
  refine V.callV0i (pc := 121) C hyX2_readsOf wd_608 (mX2_readsOf (r := q9.1) (g' := q9.2) K.2.1 E (kS K) h10) rfl rfl rfl (oX2_readsOf h10) ⟨Nat.le_of_ble_eq_true rfl, Nat.le_of_ble_eq_true rfl⟩ (Nat.le_of_ble_eq_true rfl) dX7_go_121 ⟨Nat.zero_le _, Nat.zero_le _⟩ rfl ?_
  refine V.imul (pc := 124) C dX7_go_124 ?_
  refine V.iadd (pc := 125) C dX7_go_125 ?_
  replace hf := ob_some hf
  obtain ⟨q11, h12, hf⟩ := hf
  refine V.callV0v (pc := 126) C hyX7_visit wd_612 (mX7_visit (r := q11.1) (g' := q11.2) K.2.1 E (kS K) h12) rfl rfl rfl (oX7_visit h12) ⟨Nat.le_of_ble_eq_true rfl, Nat.le_of_ble_eq_true rfl⟩ (Nat.le_of_ble_eq_true rfl) dX7_go_126 ⟨Nat.zero_le _, Nat.zero_le _⟩ rfl ?_
  refine V.iload (pc := 129) C dX7_go_129 6 rfl ?_
  refine V.aload_n (pc := 131) C dX7_go_131 2 rfl ?_
  replace hf := ob_some hf
  obtain ⟨x13, h14, hf⟩ := hf
  refine V.getI (pc := 132) C kX7 (k := 3) (by decide) wd_139 h14 dX7_go_132 ?_
  refine V.aload_n (pc := 135) C dX7_go_135 4 rfl ?_
  refine V.iload (pc := 136) C dX7_go_136 7 rfl ?_
  replace hf := ob_some hf
  obtain ⟨q15, h16, hf⟩ := hf
  refine V.callV0i (pc := 138) C hyX2_readsOf wd_608 (mX2_readsOf (r := q15.1) (g' := q15.2) K.2.1 E (kS K) h16) rfl rfl rfl (oX2_readsOf h16) ⟨Nat.le_of_ble_eq_true rfl, Nat.le_of_ble_eq_true rfl⟩ (Nat.le_of_ble_eq_true rfl) dX7_go_138 ⟨Nat.zero_le _, Nat.zero_le _⟩ rfl ?_
  refine V.imul (pc := 141) C dX7_go_141 ?_
  refine V.iadd (pc := 142) C dX7_go_142 ?_
  refine V.istore (pc := 143) (L' := [(5, .int (v5 + (x13 * q15.1))), (9, .int ((1 : Int32) - s0)), (8, .int s0), (0, .ref v0), (1, .ref v1), (2, .ref v2), (4, .int v4), (6, .int v6), (7, .int v7)]) C dX7_go_143 (by decide) rfl ?_
  refine V.iinc (pc := 145) (v := (v6 + (1 : Int32))) (L' := [(6, .int (v6 + (1 : Int32))), (5, .int (v5 + (x13 * q15.1))), (9, .int ((1 : Int32) - s0)), (8, .int s0), (0, .ref v0), (1, .ref v1), (2, .ref v2), (4, .int v4), (7, .int v7)]) C dX7_go_145 7 rfl rfl (by decide) rfl ?_
  refine V.goto (pc := 148) (t := 20) C dX7_go_148 (by decide) ?_
  refine V.sub (L' := [(0, .ref v0), (1, .ref v1), (2, .ref v2), (4, .int v4), (5, .int (v5 + (x13 * q15.1))), (6, .int (v6 + (1 : Int32)))]) [4, 5, 6, 7, 1, 0] rfl ?_
  exact hk20 _ _ _ _ _ _ _ hf
def fX7_go_55 (k20 : PH → Nat → Nat → Nat → Int32 → Int32 → Int32 → Option (Int32 × PH)) (g : PH) (v0 : Nat) (v1 : Nat) (v2 : Nat) (v4 : Int32) (v5 : Int32) (v6 : Int32) (v7 : Int32) (s0 : Int32) : Option (Int32 × PH) :=
  if s0 = v7 then (fX7_go_65 (k20) g v0 v1 v2 v4 v5 v6 v7 (0 : Int32)) else
  (fX7_go_65 (k20) g v0 v1 v2 v4 v5 v6 v7 (1 : Int32))
set_option maxHeartbeats 4000000 in
set_option maxRecDepth 100000 in
theorem bX7_go_55 {K : HK} {E : HE} {r : Int32} {g' : PH} {k20 : PH → Nat → Nat → Nat → Int32 → Int32 → Int32 → Option (Int32 × PH)} (C : VC K E 10 cX7_go RX7 (some .int)) (hk20 : ∀ (g : PH) (v0 : Nat) (v1 : Nat) (v2 : Nat) (v4 : Int32) (v5 : Int32) (v6 : Int32), k20 g v0 v1 v2 v4 v5 v6 = some (r, g') → V K E (hRm 2 54 0 0) 10 (hZ K E (some (.int r)) g' 0 0) 0 0 (kS K) g 20 [(0, .ref v0), (1, .ref v1), (2, .ref v2), (4, .int v4), (5, .int v5), (6, .int v6)] []) {g : PH} {v0 : Nat} {v1 : Nat} {v2 : Nat} {v4 : Int32} {v5 : Int32} {v6 : Int32} {v7 : Int32} {s0 : Int32} (hf : fX7_go_55 k20 g v0 v1 v2 v4 v5 v6 v7 s0 = some (r, g')) : V K E (hRm 2 54 0 0) 10 (hZ K E (some (.int r)) g' 0 0) 0 0 (kS K) g 55 [(0, .ref v0), (1, .ref v1), (2, .ref v2), (4, .int v4), (5, .int v5), (6, .int v6), (7, .int v7)] [.int s0] := by
  unfold fX7_go_55 at hf
  refine V.iload (pc := 55) C dX7_go_55 6 rfl ?_
  refine V.icmp_eq (pc := 57) (t := 64) C dX7_go_57 (by decide) (fun c1 => ?_) (fun c1 => ?_)
  · replace hf := ite_t c1 hf
    refine V.iconst (pc := 64) C dX7_go_64 (v := (0 : Int32)) (by decide) ?_
    refine V.sub (L' := [(0, .ref v0), (1, .ref v1), (2, .ref v2), (4, .int v4), (5, .int v5), (6, .int v6), (7, .int v7)]) [0, 1, 2, 3, 4, 5, 6] rfl ?_
    exact bX7_go_65 C hk20 hf
  replace hf := ite_f c1 hf
  refine V.iconst (pc := 60) C dX7_go_60 (v := (1 : Int32)) (by decide) ?_
  refine V.goto (pc := 61) (t := 65) C dX7_go_61 (by decide) ?_
  refine V.sub (L' := [(0, .ref v0), (1, .ref v1), (2, .ref v2), (4, .int v4), (5, .int v5), (6, .int v6), (7, .int v7)]) [0, 1, 2, 3, 4, 5, 6] rfl ?_
  exact bX7_go_65 C hk20 hf
def fX7_go_20  : Nat → PH → Nat → Nat → Nat → Int32 → Int32 → Int32 → Option (Int32 × PH)
  | 0, _, _, _, _, _, _, _ => none
  | n + 1, g, v0, v1, v2, v4, v5, v6 =>
  (getI g v2 2 0).bind fun x1 =>
  (if x1 ≤ v6 then ((getI g v0 7 2).bind fun x4 =>
  (some (x4, g))) else
  ((fX2_isDown g v2 v6 v4).bind fun q6 =>
  ((getI q6.2 v0 7 0).bind fun x8 =>
  ((getI q6.2 v0 7 1).bind fun x10 =>
  (if x10 ≤ x8 then (fX7_go_55 (fX7_go_20 n) q6.2 v0 v1 v2 v4 v5 v6 q6.1 (0 : Int32)) else
  (fX7_go_55 (fX7_go_20 n) q6.2 v0 v1 v2 v4 v5 v6 q6.1 (1 : Int32)))))))
set_option maxHeartbeats 4000000 in
set_option maxRecDepth 100000 in
theorem bX7_go_20 {K : HK} {E : HE} {r : Int32} {g' : PH}  (C : VC K E 10 cX7_go RX7 (some .int))  : ∀ (n : Nat) (g : PH) (v0 : Nat) (v1 : Nat) (v2 : Nat) (v4 : Int32) (v5 : Int32) (v6 : Int32), fX7_go_20  n g v0 v1 v2 v4 v5 v6 = some (r, g') → V K E (hRm 2 54 0 0) 10 (hZ K E (some (.int r)) g' 0 0) 0 0 (kS K) g 20 [(0, .ref v0), (1, .ref v1), (2, .ref v2), (4, .int v4), (5, .int v5), (6, .int v6)] [] := by
  intro n
  induction n with
  | zero =>
    intro g v0 v1 v2 v4 v5 v6 hf
    rw [fX7_go_20] at hf
    cases hf
  | succ n ih =>
    intro g v0 v1 v2 v4 v5 v6 hf
    rw [fX7_go_20] at hf
    refine V.iload (pc := 20) C dX7_go_20 5 rfl ?_
    refine V.aload_n (pc := 22) C dX7_go_22 2 rfl ?_
    replace hf := ob_some hf
    obtain ⟨x1, h2, hf⟩ := hf
    refine V.getI (pc := 23) C kX2 (k := 0) (by decide) wd_445 h2 dX7_go_23 ?_
    refine V.icmp_ge (pc := 26) (t := 151) C dX7_go_26 (by decide) (fun c3 => ?_) (fun c3 => ?_)
    · replace hf := ite_t c3 hf
      refine V.aload_n (pc := 151) C dX7_go_151 0 rfl ?_
      replace hf := ob_some hf
      obtain ⟨x4, h5, hf⟩ := hf
      refine V.getI (pc := 152) C kX7 (k := 2) (by decide) wd_136 h5 dX7_go_152 ?_
      obtain ⟨f1, f2⟩ := fin2 hf
      clear hf
      subst f1
      subst f2
      exact V.iret (pc := 155) C rfl dX7_go_155
    replace hf := ite_f c3 hf
    refine V.aload_n (pc := 29) C dX7_go_29 2 rfl ?_
    refine V.iload (pc := 30) C dX7_go_30 5 rfl ?_
    refine V.iload (pc := 32) C dX7_go_32 3 rfl ?_
    replace hf := ob_some hf
    obtain ⟨q6, h7, hf⟩ := hf
    refine V.callV0i (pc := 34) C hyX2_isDown wd_599 (mX2_isDown (r := q6.1) (g' := q6.2) K.2.1 E (kS K) h7) rfl rfl rfl (oX2_isDown h7) ⟨Nat.le_of_ble_eq_true rfl, Nat.le_of_ble_eq_true rfl⟩ (Nat.le_of_ble_eq_true rfl) dX7_go_34 ⟨Nat.zero_le _, Nat.zero_le _⟩ rfl ?_
    refine V.istore (pc := 37) (L' := [(7, .int q6.1), (0, .ref v0), (1, .ref v1), (2, .ref v2), (4, .int v4), (5, .int v5), (6, .int v6)]) C dX7_go_37 (by decide) rfl ?_
    refine V.aload_n (pc := 39) C dX7_go_39 1 rfl ?_
    replace hf := ob_some hf
    obtain ⟨x8, h9, hf⟩ := hf
    refine V.getI (pc := 40) C kX7 (k := 0) (by decide) wd_132 h9 dX7_go_40 ?_
    refine V.aload_n (pc := 43) C dX7_go_43 1 rfl ?_
    replace hf := ob_some hf
    obtain ⟨x10, h11, hf⟩ := hf
    refine V.getI (pc := 44) C kX7 (k := 1) (by decide) wd_134 h11 dX7_go_44 ?_
    refine V.icmp_ge (pc := 47) (t := 54) C dX7_go_47 (by decide) (fun c12 => ?_) (fun c12 => ?_)
    · replace hf := ite_t c12 hf
      refine V.iconst (pc := 54) C dX7_go_54 (v := (0 : Int32)) (by decide) ?_
      refine V.sub (L' := [(0, .ref v0), (1, .ref v1), (2, .ref v2), (4, .int v4), (5, .int v5), (6, .int v6), (7, .int q6.1)]) [1, 2, 3, 4, 5, 6, 0] rfl ?_
      exact bX7_go_55 C ih hf
    replace hf := ite_f c12 hf
    refine V.iconst (pc := 50) C dX7_go_50 (v := (1 : Int32)) (by decide) ?_
    refine V.goto (pc := 51) (t := 55) C dX7_go_51 (by decide) ?_
    refine V.sub (L' := [(0, .ref v0), (1, .ref v1), (2, .ref v2), (4, .int v4), (5, .int v5), (6, .int v6), (7, .int q6.1)]) [1, 2, 3, 4, 5, 6, 0] rfl ?_
    exact bX7_go_55 C ih hf
def fX7_go (g : PH) (a0 : Nat) (a1 : Nat) (a2 : Nat) (a3 : Int32) (a4 : Int32) : Option (Int32 × PH) :=
  okb (isO g a0 7) ((putV g a0 7 2 (.int (0 : Int32))).bind fun g1 =>
  ((fX1_settledFrom g1 a1 a3).bind fun q3 =>
  ((putV q3.2 a0 7 4 (.int q3.1)).bind fun g5 =>
  (fX7_go_20 FUEL g5 a0 a1 a2 a4 (0 : Int32) (0 : Int32)))))
theorem oX7_go {g : PH} {a0 : Nat} {a1 : Nat} {a2 : Nat} {a3 : Int32} {a4 : Int32} {q : (Int32 × PH)} (h : fX7_go g a0 a1 a2 a3 a4 = some q) : isO g a0 7 = true := by unfold fX7_go at h; exact (okb_some h).1
theorem hyX7_go : hMet yX7_go RX7 cX7_go 10 (some .int) 4 := ⟨wd_597, wd_595, wd_596, wd_5, rfl, by decide +kernel, by decide +kernel, by decide +kernel⟩
set_option maxHeartbeats 4000000 in
set_option maxRecDepth 100000 in
theorem mX7_go (l : Launch) (E : HE) (sz : Nat) {g g' : PH} {a0 : Nat} {a1 : Nat} {a2 : Nat} {a3 : Int32} {a4 : Int32} {r : Int32} (hf : fX7_go g a0 a1 a2 a3 a4 = some (r, g')) : hM l E yX7_go cX7_go 10 (some .int) 2 54 0 0 sz g [.ref a0, .ref a1, .ref a2, .int a3, .int a4] (some (.int r)) g' := by
  refine hM.of (by decide) (Nat.le_of_ble_eq_true rfl) (fun K hl C hin hsz => ?_)
  subst hl
  subst hsz
  have C : VC K E 10 cX7_go RX7 (some .int) := C
  unfold fX7_go at hf
  replace hf := okb_some hf
  obtain ⟨ho, hf⟩ := hf
  refine V.start (L' := [(0, .ref a0), (1, .ref a1), (2, .ref a2), (3, .int a3), (4, .int a4)]) rfl ?_
  refine V.aload_n (pc := 0) C dX7_go_0 0 rfl ?_
  refine V.iconst (pc := 1) C dX7_go_1 (v := (0 : Int32)) (by decide) ?_
  replace hf := ob_some hf
  obtain ⟨g1, h2, hf⟩ := hf
  refine V.putX (pc := 2) C kX7 (k := 2) (by decide) wd_136 rfl rfl rfl h2 dX7_go_2 ?_
  refine V.aload_n (pc := 5) C dX7_go_5 0 rfl ?_
  refine V.aload_n (pc := 6) C dX7_go_6 1 rfl ?_
  refine V.iload_n (pc := 7) C dX7_go_7 3 rfl ?_
  replace hf := ob_some hf
  obtain ⟨q3, h4, hf⟩ := hf
  refine V.callV0i (pc := 8) C hyX1_settledFrom wd_598 (mX1_settledFrom (r := q3.1) (g' := q3.2) K.2.1 E (kS K) h4) rfl rfl rfl (oX1_settledFrom h4) ⟨Nat.le_of_ble_eq_true rfl, Nat.le_of_ble_eq_true rfl⟩ (Nat.le_of_ble_eq_true rfl) dX7_go_8 ⟨Nat.zero_le _, Nat.zero_le _⟩ rfl ?_
  replace hf := ob_some hf
  obtain ⟨g5, h6, hf⟩ := hf
  refine V.putX (pc := 11) C kX7 (k := 4) (by decide) wd_140 rfl rfl rfl h6 dX7_go_11 ?_
  refine V.iconst (pc := 14) C dX7_go_14 (v := (0 : Int32)) (by decide) ?_
  refine V.istore (pc := 15) (L' := [(5, .int (0 : Int32)), (0, .ref a0), (1, .ref a1), (2, .ref a2), (3, .int a3), (4, .int a4)]) C dX7_go_15 (by decide) rfl ?_
  refine V.iconst (pc := 17) C dX7_go_17 (v := (0 : Int32)) (by decide) ?_
  refine V.istore (pc := 18) (L' := [(6, .int (0 : Int32)), (5, .int (0 : Int32)), (0, .ref a0), (1, .ref a1), (2, .ref a2), (3, .int a3), (4, .int a4)]) C dX7_go_18 (by decide) rfl ?_
  refine V.sub (L' := [(0, .ref a0), (1, .ref a1), (2, .ref a2), (4, .int a4), (5, .int (0 : Int32)), (6, .int (0 : Int32))]) [2, 3, 4, 6, 1, 0] rfl ?_
  exact bX7_go_20 C  _ _ _ _ _ _ _ _ hf
