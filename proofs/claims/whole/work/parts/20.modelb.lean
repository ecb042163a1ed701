theorem dX9_readsDigit_0 : decode cX9_readsDigit 0 = .ok (.aload_n 0, 1) := by decide +kernel
theorem dX9_readsDigit_1 : decode cX9_readsDigit 1 = .ok (.invokevirtual 100, 3) := by decide +kernel
theorem dX9_readsDigit_4 : decode cX9_readsDigit 4 = .ok (.istore_n 2, 1) := by decide +kernel
theorem dX9_readsDigit_5 : decode cX9_readsDigit 5 = .ok (.iload_n 2, 1) := by decide +kernel
theorem dX9_readsDigit_6 : decode cX9_readsDigit 6 = .ok (.bipush 48, 2) := by decide +kernel
theorem dX9_readsDigit_8 : decode cX9_readsDigit 8 = .ok (.if_icmp .eq 29, 3) := by decide +kernel
theorem dX9_readsDigit_11 : decode cX9_readsDigit 11 = .ok (.iload_n 2, 1) := by decide +kernel
theorem dX9_readsDigit_12 : decode cX9_readsDigit 12 = .ok (.bipush 49, 2) := by decide +kernel
theorem dX9_readsDigit_14 : decode cX9_readsDigit 14 = .ok (.if_icmp .eq 23, 3) := by decide +kernel
theorem dX9_readsDigit_17 : decode cX9_readsDigit 17 = .ok (.iload_n 2, 1) := by decide +kernel
theorem dX9_readsDigit_18 : decode cX9_readsDigit 18 = .ok (.bipush 120, 2) := by decide +kernel
theorem dX9_readsDigit_20 : decode cX9_readsDigit 20 = .ok (.if_icmp .ne 7, 3) := by decide +kernel
theorem dX9_readsDigit_23 : decode cX9_readsDigit 23 = .ok (.iload_n 1, 1) := by decide +kernel
theorem dX9_readsDigit_24 : decode cX9_readsDigit 24 = .ok (.ifCond .ne 13, 3) := by decide +kernel
theorem dX9_readsDigit_27 : decode cX9_readsDigit 27 = .ok (.aload_n 0, 1) := by decide +kernel
theorem dX9_readsDigit_28 : decode cX9_readsDigit 28 = .ok (.iconst 1, 1) := by decide +kernel
theorem dX9_readsDigit_29 : decode cX9_readsDigit 29 = .ok (.aload_n 0, 1) := by decide +kernel
theorem dX9_readsDigit_30 : decode cX9_readsDigit 30 = .ok (.getfield 93, 3) := by decide +kernel
theorem dX9_readsDigit_33 : decode cX9_readsDigit 33 = .ok (.invokevirtual 108, 3) := by decide +kernel
theorem dX9_readsDigit_36 : decode cX9_readsDigit 36 = .ok (.ireturn, 1) := by decide +kernel
theorem dX9_readsDigit_37 : decode cX9_readsDigit 37 = .ok (.aload_n 0, 1) := by decide +kernel
theorem dX9_readsDigit_38 : decode cX9_readsDigit 38 = .ok (.iload_n 2, 1) := by decide +kernel
theorem dX9_readsDigit_39 : decode cX9_readsDigit 39 = .ok (.bipush 120, 2) := by decide +kernel
theorem dX9_readsDigit_41 : decode cX9_readsDigit 41 = .ok (.if_icmp .ne 7, 3) := by decide +kernel
theorem dX9_readsDigit_44 : decode cX9_readsDigit 44 = .ok (.iconst 2, 1) := by decide +kernel
theorem dX9_readsDigit_45 : decode cX9_readsDigit 45 = .ok (.goto 7, 3) := by decide +kernel
theorem dX9_readsDigit_48 : decode cX9_readsDigit 48 = .ok (.iload_n 2, 1) := by decide +kernel
theorem dX9_readsDigit_49 : decode cX9_readsDigit 49 = .ok (.bipush 48, 2) := by decide +kernel
theorem dX9_readsDigit_51 : decode cX9_readsDigit 51 = .ok (.isub, 1) := by decide +kernel
theorem dX9_readsDigit_52 : decode cX9_readsDigit 52 = .ok (.putfield 112, 3) := by decide +kernel
theorem dX9_readsDigit_55 : decode cX9_readsDigit 55 = .ok (.aload_n 0, 1) := by decide +kernel
theorem dX9_readsDigit_56 : decode cX9_readsDigit 56 = .ok (.dup, 1) := by decide +kernel
theorem dX9_readsDigit_57 : decode cX9_readsDigit 57 = .ok (.getfield 93, 3) := by decide +kernel
theorem dX9_readsDigit_60 : decode cX9_readsDigit 60 = .ok (.iconst 1, 1) := by decide +kernel
theorem dX9_readsDigit_61 : decode cX9_readsDigit 61 = .ok (.iadd, 1) := by decide +kernel
theorem dX9_readsDigit_62 : decode cX9_readsDigit 62 = .ok (.putfield 93, 3) := by decide +kernel
theorem dX9_readsDigit_65 : decode cX9_readsDigit 65 = .ok (.iconst 1, 1) := by decide +kernel
theorem dX9_readsDigit_66 : decode cX9_readsDigit 66 = .ok (.ireturn, 1) := by decide +kernel
def fX9_readsDigit_27  (g : PH) (v0 : Nat) : Option (Int32 × PH) :=
  (getI g v0 9 2).bind fun x1 =>
  ((fX9_fails g v0 (1 : Int32) x1).bind fun q3 =>
  (okb (vp_nar .boolean q3.1 == q3.1) (some (q3.1, q3.2))))
set_option maxHeartbeats 4000000 in
set_option maxRecDepth 100000 in
theorem bX9_readsDigit_27 {K : HK} {E : HE} {r : Int32} {g' : PH}  (C : VC K E 3 cX9_readsDigit RX9 (some .boolean))  {g : PH} {v0 : Nat} (hf : fX9_readsDigit_27  g v0 = some (r, g')) : V K E (hRm 2 41 0 0) 3 (hZ K E (some (.int r)) g' 0 0) 0 0 (kS K) g 27 [(0, .ref v0)] [] := by
  unfold fX9_readsDigit_27 at hf
  refine V.aload_n (pc := 27) C dX9_readsDigit_27 0 rfl ?_
  refine V.iconst (pc := 28) C dX9_readsDigit_28 (v := (1 : Int32)) (by decide) ?_
  refine V.aload_n (pc := 29) C dX9_readsDigit_29 0 rfl ?_
  replace hf := ob_some hf
  obtain ⟨x1, h2, hf⟩ := hf
  refine V.getI (pc := 30) C kX9 (k := 2) (by decide) wd_1052 h2 dX9_readsDigit_30 ?_
  replace hf := ob_some hf
  obtain ⟨q3, h4, hf⟩ := hf
  refine V.callV0i (pc := 33) C hyX9_fails wd_1208 (mX9_fails (r := q3.1) (g' := q3.2) K.2.1 E (kS K) h4) rfl rfl rfl (oX9_fails h4) ⟨Nat.le_of_ble_eq_true rfl, Nat.le_of_ble_eq_true rfl⟩ (Nat.le_of_ble_eq_true rfl) dX9_readsDigit_33 ⟨Nat.zero_le _, Nat.zero_le _⟩ rfl ?_
  replace hf := okb_some hf
  obtain ⟨h5, hf⟩ := hf
  obtain ⟨f1, f2⟩ := fin2 hf
  clear hf
  subst f1
  subst f2
  exact V.zret (pc := 36) C (nar_z (eq_of_beq h5)) rfl dX9_readsDigit_36
def fX9_readsDigit_52  (g : PH) (v0 : Nat) (s0 : Int32) (s1 : Nat) : Option (Int32 × PH) :=
  (putV g s1 9 4 (.int s0)).bind fun g1 =>
  ((getI g1 v0 9 2).bind fun x3 =>
  ((putV g1 v0 9 2 (.int (x3 + (1 : Int32)))).bind fun g5 =>
  (some ((1 : Int32), g5))))
set_option maxHeartbeats 4000000 in
set_option maxRecDepth 100000 in
theorem bX9_readsDigit_52 {K : HK} {E : HE} {r : Int32} {g' : PH}  (C : VC K E 3 cX9_readsDigit RX9 (some .boolean))  {g : PH} {v0 : Nat} {s0 : Int32} {s1 : Nat} (hf : fX9_readsDigit_52  g v0 s0 s1 = some (r, g')) : V K E (hRm 2 41 0 0) 3 (hZ K E (some (.int r)) g' 0 0) 0 0 (kS K) g 52 [(0, .ref v0)] [.int s0, .ref s1] := by
  unfold fX9_readsDigit_52 at hf
  replace hf := ob_some hf
  obtain ⟨g1, h2, hf⟩ := hf
  refine V.putX (pc := 52) C kX9 (k := 4) (by decide) wd_1054 rfl rfl rfl h2 dX9_readsDigit_52 ?_
  refine V.aload_n (pc := 55) C dX9_readsDigit_55 0 rfl ?_
  refine V.dup (pc := 56) C dX9_readsDigit_56 rfl ?_
  replace hf := ob_some hf
  obtain ⟨x3, h4, hf⟩ := hf
  refine V.getI (pc := 57) C kX9 (k := 2) (by decide) wd_1052 h4 dX9_readsDigit_57 ?_
  refine V.iconst (pc := 60) C dX9_readsDigit_60 (v := (1 : Int32)) (by decide) ?_
  refine V.iadd (pc := 61) C dX9_readsDigit_61 ?_
  replace hf := ob_some hf
  obtain ⟨g5, h6, hf⟩ := hf
  refine V.putX (pc := 62) C kX9 (k := 2) (by decide) wd_1052 rfl rfl rfl h6 dX9_readsDigit_62 ?_
  refine V.iconst (pc := 65) C dX9_readsDigit_65 (v := (1 : Int32)) (by decide) ?_
  obtain ⟨f1, f2⟩ := fin2 hf
  clear hf
  subst f1
  subst f2
  exact V.zret (pc := 66) C rfl rfl dX9_readsDigit_66
def fX9_readsDigit_37  (g : PH) (v0 : Nat) (v2 : Int32) : Option (Int32 × PH) :=
  if v2 = (120 : Int32) then (fX9_readsDigit_52 g v0 (2 : Int32) v0) else
  (fX9_readsDigit_52 g v0 (v2 - (48 : Int32)) v0)
set_option maxHeartbeats 4000000 in
set_option maxRecDepth 100000 in
theorem bX9_readsDigit_37 {K : HK} {E : HE} {r : Int32} {g' : PH}  (C : VC K E 3 cX9_readsDigit RX9 (some .boolean))  {g : PH} {v0 : Nat} {v2 : Int32} (hf : fX9_readsDigit_37  g v0 v2 = some (r, g')) : V K E (hRm 2 41 0 0) 3 (hZ K E (some (.int r)) g' 0 0) 0 0 (kS K) g 37 [(0, .ref v0), (2, .int v2)] [] := by
  unfold fX9_readsDigit_37 at hf
  refine V.aload_n (pc := 37) C dX9_readsDigit_37 0 rfl ?_
  refine V.iload_n (pc := 38) C dX9_readsDigit_38 1 rfl ?_
  refine V.bipush (pc := 39) C dX9_readsDigit_39 (v := (120 : Int32)) (by decide) ?_
  refine V.icmp_ne (pc := 41) (t := 48) C dX9_readsDigit_41 (by decide) (fun c1 => ?_) (fun c1 => ?_)
  · replace hf := ite_f c1 hf
    refine V.iload_n (pc := 48) C dX9_readsDigit_48 1 rfl ?_
    refine V.bipush (pc := 49) C dX9_readsDigit_49 (v := (48 : Int32)) (by decide) ?_
    refine V.isub (pc := 51) C dX9_readsDigit_51 ?_
    refine V.sub (L' := [(0, .ref v0)]) [0] rfl ?_
    exact bX9_readsDigit_52 C  hf
  replace hf := ite_t c1 hf
  refine V.iconst (pc := 44) C dX9_readsDigit_44 (v := (2 : Int32)) (by decide) ?_
  refine V.goto (pc := 45) (t := 52) C dX9_readsDigit_45 (by decide) ?_
  refine V.sub (L' := [(0, .ref v0)]) [0] rfl ?_
  exact bX9_readsDigit_52 C  hf
def fX9_readsDigit (g : PH) (a0 : Nat) (a1 : Int32) : Option (Int32 × PH) :=
  okb (isO g a0 9) ((fX9_next g a0).bind fun q1 =>
  (if q1.1 = (48 : Int32) then (fX9_readsDigit_37 q1.2 a0 q1.1) else
  (if q1.1 = (49 : Int32) then (fX9_readsDigit_37 q1.2 a0 q1.1) else
  (if q1.1 = (120 : Int32) then (if a1 = 0 then (fX9_readsDigit_27 q1.2 a0) else
  (fX9_readsDigit_37 q1.2 a0 q1.1)) else
  (fX9_readsDigit_27 q1.2 a0)))))
theorem oX9_readsDigit {g : PH} {a0 : Nat} {a1 : Int32} {q : (Int32 × PH)} (h : fX9_readsDigit g a0 a1 = some q) : isO g a0 9 = true := by unfold fX9_readsDigit at h; exact (okb_some h).1
theorem hyX9_readsDigit : hMet yX9_readsDigit RX9 cX9_readsDigit 3 (some .boolean) 1 := ⟨wd_1231, wd_1230, ws_59, wd_7, rfl, by decide +kernel, by decide +kernel, by decide +kernel⟩
set_option maxHeartbeats 4000000 in
set_option maxRecDepth 100000 in
theorem mX9_readsDigit (l : Launch) (E : HE) (sz : Nat) {g g' : PH} {a0 : Nat} {a1 : Int32} {r : Int32} (hf : fX9_readsDigit g a0 a1 = some (r, g')) : hM l E yX9_readsDigit cX9_readsDigit 3 (some .boolean) 2 41 0 0 sz g [.ref a0, .int a1] (some (.int r)) g' := by
  refine hM.of (by decide) (Nat.le_of_ble_eq_true rfl) (fun K hl C hin hsz => ?_)
  subst hl
  subst hsz
  have C : VC K E 3 cX9_readsDigit RX9 (some .boolean) := C
  unfold fX9_readsDigit at hf
  replace hf := okb_some hf
  obtain ⟨ho, hf⟩ := hf
  refine V.start (L' := [(0, .ref a0), (1, .int a1)]) rfl ?_
  refine V.aload_n (pc := 0) C dX9_readsDigit_0 0 rfl ?_
  replace hf := ob_some hf
  obtain ⟨q1, h2, hf⟩ := hf
  refine V.callV0i (pc := 1) C hyX9_next wd_1197 (mX9_next (r := q1.1) (g' := q1.2) K.2.1 E (kS K) h2) rfl rfl rfl (oX9_next h2) ⟨Nat.le_of_ble_eq_true rfl, Nat.le_of_ble_eq_true rfl⟩ (Nat.le_of_ble_eq_true rfl) dX9_readsDigit_1 ⟨Nat.zero_le _, Nat.zero_le _⟩ rfl ?_
  refine V.istore_n (pc := 4) (L' := [(2, .int q1.1), (0, .ref a0), (1, .int a1)]) C dX9_readsDigit_4 (by decide) rfl ?_
  refine V.iload_n (pc := 5) C dX9_readsDigit_5 0 rfl ?_
  refine V.bipush (pc := 6) C dX9_readsDigit_6 (v := (48 : Int32)) (by decide) ?_
  refine V.icmp_eq (pc := 8) (t := 37) C dX9_readsDigit_8 (by decide) (fun c3 => ?_) (fun c3 => ?_)
  · replace hf := ite_t c3 hf
    refine V.sub (L' := [(0, .ref a0), (2, .int q1.1)]) [1, 0] rfl ?_
    exact bX9_readsDigit_37 C  hf
  replace hf := ite_f c3 hf
  refine V.iload_n (pc := 11) C dX9_readsDigit_11 0 rfl ?_
  refine V.bipush (pc := 12) C dX9_readsDigit_12 (v := (49 : Int32)) (by decide) ?_
  refine V.icmp_eq (pc := 14) (t := 37) C dX9_readsDigit_14 (by decide) (fun c4 => ?_) (fun c4 => ?_)
  · replace hf := ite_t c4 hf
    refine V.sub (L' := [(0, .ref a0), (2, .int q1.1)]) [1, 0] rfl ?_
    exact bX9_readsDigit_37 C  hf
  replace hf := ite_f c4 hf
  refine V.iload_n (pc := 17) C dX9_readsDigit_17 0 rfl ?_
  refine V.bipush (pc := 18) C dX9_readsDigit_18 (v := (120 : Int32)) (by decide) ?_
  refine V.icmp_ne (pc := 20) (t := 27) C dX9_readsDigit_20 (by decide) (fun c5 => ?_) (fun c5 => ?_)
  · replace hf := ite_f c5 hf
    refine V.sub (L' := [(0, .ref a0)]) [1] rfl ?_
    exact bX9_readsDigit_27 C  hf
  replace hf := ite_t c5 hf
  refine V.iload_n (pc := 23) C dX9_readsDigit_23 2 rfl ?_
  refine V.if_ne (pc := 24) (t := 37) C dX9_readsDigit_24 (by decide) (fun c6 => ?_) (fun c6 => ?_)
  · replace hf := ite_f c6 hf
    refine V.sub (L' := [(0, .ref a0), (2, .int q1.1)]) [1, 0] rfl ?_
    exact bX9_readsDigit_37 C  hf
  replace hf := ite_t c6 hf
  refine V.sub (L' := [(0, .ref a0)]) [1] rfl ?_
  exact bX9_readsDigit_27 C  hf
theorem dX9_ruleAt_0 : decode cX9_ruleAt 0 = .ok (.aload_n 0, 1) := by decide +kernel
theorem dX9_ruleAt_1 : decode cX9_ruleAt 1 = .ok (.getfield 13, 3) := by decide +kernel
theorem dX9_ruleAt_4 : decode cX9_ruleAt 4 = .ok (.bipush 20, 2) := by decide +kernel
theorem dX9_ruleAt_6 : decode cX9_ruleAt 6 = .ok (.iload_n 1, 1) := by decide +kernel
theorem dX9_ruleAt_7 : decode cX9_ruleAt 7 = .ok (.imul, 1) := by decide +kernel
theorem dX9_ruleAt_8 : decode cX9_ruleAt 8 = .ok (.iconst 5, 1) := by decide +kernel
theorem dX9_ruleAt_9 : decode cX9_ruleAt 9 = .ok (.iload_n 2, 1) := by decide +kernel
theorem dX9_ruleAt_10 : decode cX9_ruleAt 10 = .ok (.imul, 1) := by decide +kernel
theorem dX9_ruleAt_11 : decode cX9_ruleAt 11 = .ok (.iadd, 1) := by decide +kernel
theorem dX9_ruleAt_12 : decode cX9_ruleAt 12 = .ok (.iload_n 3, 1) := by decide +kernel
theorem dX9_ruleAt_13 : decode cX9_ruleAt 13 = .ok (.iadd, 1) := by decide +kernel
theorem dX9_ruleAt_14 : decode cX9_ruleAt 14 = .ok (.iaload, 1) := by decide +kernel
theorem dX9_ruleAt_15 : decode cX9_ruleAt 15 = .ok (.ireturn, 1) := by decide +kernel
def fX9_ruleAt (g : PH) (a0 : Nat) (a1 : Int32) (a2 : Int32) (a3 : Int32) : Option (Int32 × PH) :=
  okb (isO g a0 9) ((getR g a0 9 5).bind fun p1 =>
  ((ldI g p1 0 ((((20 : Int32) * a1) + ((5 : Int32) * a2)) + a3)).bind fun x3 =>
  (some (x3, g))))
theorem oX9_ruleAt {g : PH} {a0 : Nat} {a1 : Int32} {a2 : Int32} {a3 : Int32} {q : (Int32 × PH)} (h : fX9_ruleAt g a0 a1 a2 a3 = some q) : isO g a0 9 = true := by unfold fX9_ruleAt at h; exact (okb_some h).1
theorem hyX9_ruleAt : hMet yX9_ruleAt RX9 cX9_ruleAt 4 (some .int) 3 := ⟨wd_1215, wd_1214, ws_55, wd_7, rfl, by decide +kernel, by decide +kernel, by decide +kernel⟩
set_option maxHeartbeats 4000000 in
set_option maxRecDepth 100000 in
theorem mX9_ruleAt (l : Launch) (E : HE) (sz : Nat) {g g' : PH} {a0 : Nat} {a1 : Int32} {a2 : Int32} {a3 : Int32} {r : Int32} (hf : fX9_ruleAt g a0 a1 a2 a3 = some (r, g')) : hM l E yX9_ruleAt cX9_ruleAt 4 (some .int) 0 0 0 0 sz g [.ref a0, .int a1, .int a2, .int a3] (some (.int r)) g' := by
  refine hM.of (by decide) (Nat.le_of_ble_eq_true rfl) (fun K hl C hin hsz => ?_)
  subst hl
  subst hsz
  have C : VC K E 4 cX9_ruleAt RX9 (some .int) := C
  unfold fX9_ruleAt at hf
  replace hf := okb_some hf
  obtain ⟨ho, hf⟩ := hf
  refine V.start (L' := [(0, .ref a0), (1, .int a1), (2, .int a2), (3, .int a3)]) rfl ?_
  refine V.aload_n (pc := 0) C dX9_ruleAt_0 0 rfl ?_
  replace hf := ob_some hf
  obtain ⟨p1, h2, hf⟩ := hf
  refine V.getR (pc := 1) C kX9 (k := 5) (by decide) wd_1055 h2 dX9_ruleAt_1 ?_
  refine V.bipush (pc := 4) C dX9_ruleAt_4 (v := (20 : Int32)) (by decide) ?_
  refine V.iload_n (pc := 6) C dX9_ruleAt_6 1 rfl ?_
  refine V.imul (pc := 7) C dX9_ruleAt_7 ?_
  refine V.iconst (pc := 8) C dX9_ruleAt_8 (v := (5 : Int32)) (by decide) ?_
  refine V.iload_n (pc := 9) C dX9_ruleAt_9 2 rfl ?_
  refine V.imul (pc := 10) C dX9_ruleAt_10 ?_
  refine V.iadd (pc := 11) C dX9_ruleAt_11 ?_
  refine V.iload_n (pc := 12) C dX9_ruleAt_12 3 rfl ?_
  refine V.iadd (pc := 13) C dX9_ruleAt_13 ?_
  replace hf := ob_some hf
  obtain ⟨x3, h4, hf⟩ := hf
  refine V.iald (pc := 14) C h4 dX9_ruleAt_14 ?_
  obtain ⟨f1, f2⟩ := fin2 hf
  clear hf
  subst f1
  subst f2
  exact V.iret (pc := 15) C rfl dX9_ruleAt_15
theorem dX9_lays_0 : decode cX9_lays 0 = .ok (.aload_n 0, 1) := by decide +kernel
theorem dX9_lays_1 : decode cX9_lays 1 = .ok (.getfield 13, 3) := by decide +kernel
theorem dX9_lays_4 : decode cX9_lays 4 = .ok (.bipush 20, 2) := by decide +kernel
theorem dX9_lays_6 : decode cX9_lays 6 = .ok (.iload_n 1, 1) := by decide +kernel
theorem dX9_lays_7 : decode cX9_lays 7 = .ok (.imul, 1) := by decide +kernel
theorem dX9_lays_8 : decode cX9_lays 8 = .ok (.iconst 5, 1) := by decide +kernel
theorem dX9_lays_9 : decode cX9_lays 9 = .ok (.iload_n 2, 1) := by decide +kernel
theorem dX9_lays_10 : decode cX9_lays 10 = .ok (.imul, 1) := by decide +kernel
theorem dX9_lays_11 : decode cX9_lays 11 = .ok (.iadd, 1) := by decide +kernel
theorem dX9_lays_12 : decode cX9_lays 12 = .ok (.iload_n 3, 1) := by decide +kernel
theorem dX9_lays_13 : decode cX9_lays 13 = .ok (.iadd, 1) := by decide +kernel
theorem dX9_lays_14 : decode cX9_lays 14 = .ok (.iload 4, 2) := by decide +kernel
theorem dX9_lays_16 : decode cX9_lays 16 = .ok (.iastore, 1) := by decide +kernel
theorem dX9_lays_17 : decode cX9_lays 17 = .ok (.return_, 1) := by decide +kernel
def fX9_lays (g : PH) (a0 : Nat) (a1 : Int32) (a2 : Int32) (a3 : Int32) (a4 : Int32) : Option (Unit × PH) :=
  okb (isO g a0 9) ((getR g a0 9 5).bind fun p1 =>
  ((stI g p1 0 ((((20 : Int32) * a1) + ((5 : Int32) * a2)) + a3) a4).bind fun g3 =>
  (some ((), g3))))
theorem oX9_lays {g : PH} {a0 : Nat} {a1 : Int32} {a2 : Int32} {a3 : Int32} {a4 : Int32} {q : (Unit × PH)} (h : fX9_lays g a0 a1 a2 a3 a4 = some q) : isO g a0 9 = true := by unfold fX9_lays at h; exact (okb_some h).1
theorem hyX9_lays : hMet yX9_lays RX9 cX9_lays 5 none 4 := ⟨wd_1219, wd_1218, ws_56, wd_7, rfl, by decide +kernel, by decide +kernel, by decide +kernel⟩
set_option maxHeartbeats 4000000 in
set_option maxRecDepth 100000 in
theorem mX9_lays (l : Launch) (E : HE) (sz : Nat) {g g' : PH} {a0 : Nat} {a1 : Int32} {a2 : Int32} {a3 : Int32} {a4 : Int32} {r : Unit} (hf : fX9_lays g a0 a1 a2 a3 a4 = some (r, g')) : hM l E yX9_lays cX9_lays 5 none 0 0 0 0 sz g [.ref a0, .int a1, .int a2, .int a3, .int a4] none g' := by
  refine hM.of (by decide) (Nat.le_of_ble_eq_true rfl) (fun K hl C hin hsz => ?_)
  subst hl
  subst hsz
  have C : VC K E 5 cX9_lays RX9 none := C
  unfold fX9_lays at hf
  replace hf := okb_some hf
  obtain ⟨ho, hf⟩ := hf
  refine V.start (L' := [(0, .ref a0), (1, .int a1), (2, .int a2), (3, .int a3), (4, .int a4)]) rfl ?_
  refine V.aload_n (pc := 0) C dX9_lays_0 0 rfl ?_
  replace hf := ob_some hf
  obtain ⟨p1, h2, hf⟩ := hf
  refine V.getR (pc := 1) C kX9 (k := 5) (by decide) wd_1055 h2 dX9_lays_1 ?_
  refine V.bipush (pc := 4) C dX9_lays_4 (v := (20 : Int32)) (by decide) ?_
  refine V.iload_n (pc := 6) C dX9_lays_6 1 rfl ?_
  refine V.imul (pc := 7) C dX9_lays_7 ?_
  refine V.iconst (pc := 8) C dX9_lays_8 (v := (5 : Int32)) (by decide) ?_
  refine V.iload_n (pc := 9) C dX9_lays_9 2 rfl ?_
  refine V.imul (pc := 10) C dX9_lays_10 ?_
  refine V.iadd (pc := 11) C dX9_lays_11 ?_
  refine V.iload_n (pc := 12) C dX9_lays_12 3 rfl ?_
  refine V.iadd (pc := 13) C dX9_lays_13 ?_
  refine V.iload (pc := 14) C dX9_lays_14 4 rfl ?_
  replace hf := ob_some hf
  obtain ⟨g3, h4, hf⟩ := hf
  refine V.iast (pc := 16) C h4 dX9_lays_16 ?_
  obtain ⟨f1, f2⟩ := fin2 hf
  clear hf
  subst f1
  subst f2
  exact V.vret (pc := 17) C rfl dX9_lays_17
theorem dX9_readsV_0 : decode cX9_readsV 0 = .ok (.aload_n 0, 1) := by decide +kernel
theorem dX9_readsV_1 : decode cX9_readsV 1 = .ok (.iconst 0, 1) := by decide +kernel
theorem dX9_readsV_2 : decode cX9_readsV 2 = .ok (.invokevirtual 115, 3) := by decide +kernel
theorem dX9_readsV_5 : decode cX9_readsV 5 = .ok (.ifCond .ne 5, 3) := by decide +kernel
theorem dX9_readsV_8 : decode cX9_readsV 8 = .ok (.iconst 0, 1) := by decide +kernel
theorem dX9_readsV_9 : decode cX9_readsV 9 = .ok (.ireturn, 1) := by decide +kernel
theorem dX9_readsV_10 : decode cX9_readsV 10 = .ok (.aload_n 0, 1) := by decide +kernel
theorem dX9_readsV_11 : decode cX9_readsV 11 = .ok (.aload_n 0, 1) := by decide +kernel
theorem dX9_readsV_12 : decode cX9_readsV 12 = .ok (.getfield 119, 3) := by decide +kernel
theorem dX9_readsV_15 : decode cX9_readsV 15 = .ok (.iload_n 1, 1) := by decide +kernel
theorem dX9_readsV_16 : decode cX9_readsV 16 = .ok (.iconst 1, 1) := by decide +kernel
theorem dX9_readsV_17 : decode cX9_readsV 17 = .ok (.aload_n 0, 1) := by decide +kernel
theorem dX9_readsV_18 : decode cX9_readsV 18 = .ok (.getfield 112, 3) := by decide +kernel
theorem dX9_readsV_21 : decode cX9_readsV 21 = .ok (.invokevirtual 122, 3) := by decide +kernel
theorem dX9_readsV_24 : decode cX9_readsV 24 = .ok (.aload_n 0, 1) := by decide +kernel
theorem dX9_readsV_25 : decode cX9_readsV 25 = .ok (.bipush 119, 2) := by decide +kernel
theorem dX9_readsV_27 : decode cX9_readsV 27 = .ok (.invokevirtual 104, 3) := by decide +kernel
theorem dX9_readsV_30 : decode cX9_readsV 30 = .ok (.ifCond .eq 62, 3) := by decide +kernel
theorem dX9_readsV_33 : decode cX9_readsV 33 = .ok (.aload_n 0, 1) := by decide +kernel
theorem dX9_readsV_34 : decode cX9_readsV 34 = .ok (.iconst 0, 1) := by decide +kernel
theorem dX9_readsV_35 : decode cX9_readsV 35 = .ok (.invokevirtual 115, 3) := by decide +kernel
theorem dX9_readsV_38 : decode cX9_readsV 38 = .ok (.ifCond .ne 5, 3) := by decide +kernel
theorem dX9_readsV_41 : decode cX9_readsV 41 = .ok (.iconst 0, 1) := by decide +kernel
theorem dX9_readsV_42 : decode cX9_readsV 42 = .ok (.ireturn, 1) := by decide +kernel
theorem dX9_readsV_43 : decode cX9_readsV 43 = .ok (.aload_n 0, 1) := by decide +kernel
theorem dX9_readsV_44 : decode cX9_readsV 44 = .ok (.aload_n 0, 1) := by decide +kernel
theorem dX9_readsV_45 : decode cX9_readsV 45 = .ok (.getfield 119, 3) := by decide +kernel
theorem dX9_readsV_48 : decode cX9_readsV 48 = .ok (.iload_n 1, 1) := by decide +kernel
theorem dX9_readsV_49 : decode cX9_readsV 49 = .ok (.iconst 2, 1) := by decide +kernel
theorem dX9_readsV_50 : decode cX9_readsV 50 = .ok (.aload_n 0, 1) := by decide +kernel
theorem dX9_readsV_51 : decode cX9_readsV 51 = .ok (.getfield 112, 3) := by decide +kernel
theorem dX9_readsV_54 : decode cX9_readsV 54 = .ok (.invokevirtual 122, 3) := by decide +kernel
theorem dX9_readsV_57 : decode cX9_readsV 57 = .ok (.aload_n 0, 1) := by decide +kernel
theorem dX9_readsV_58 : decode cX9_readsV 58 = .ok (.bipush 58, 2) := by decide +kernel
theorem dX9_readsV_60 : decode cX9_readsV 60 = .ok (.invokevirtual 126, 3) := by decide +kernel
theorem dX9_readsV_63 : decode cX9_readsV 63 = .ok (.ifCond .eq 11, 3) := by decide +kernel
theorem dX9_readsV_66 : decode cX9_readsV 66 = .ok (.aload_n 0, 1) := by decide +kernel
theorem dX9_readsV_67 : decode cX9_readsV 67 = .ok (.iconst 0, 1) := by decide +kernel
theorem dX9_readsV_68 : decode cX9_readsV 68 = .ok (.invokevirtual 115, 3) := by decide +kernel
theorem dX9_readsV_71 : decode cX9_readsV 71 = .ok (.ifCond .ne 5, 3) := by decide +kernel
theorem dX9_readsV_74 : decode cX9_readsV 74 = .ok (.iconst 0, 1) := by decide +kernel
theorem dX9_readsV_75 : decode cX9_readsV 75 = .ok (.ireturn, 1) := by decide +kernel
theorem dX9_readsV_76 : decode cX9_readsV 76 = .ok (.aload_n 0, 1) := by decide +kernel
theorem dX9_readsV_77 : decode cX9_readsV 77 = .ok (.aload_n 0, 1) := by decide +kernel
theorem dX9_readsV_78 : decode cX9_readsV 78 = .ok (.getfield 119, 3) := by decide +kernel
theorem dX9_readsV_81 : decode cX9_readsV 81 = .ok (.iload_n 1, 1) := by decide +kernel
theorem dX9_readsV_82 : decode cX9_readsV 82 = .ok (.iconst 3, 1) := by decide +kernel
theorem dX9_readsV_83 : decode cX9_readsV 83 = .ok (.aload_n 0, 1) := by decide +kernel
theorem dX9_readsV_84 : decode cX9_readsV 84 = .ok (.getfield 112, 3) := by decide +kernel
theorem dX9_readsV_87 : decode cX9_readsV 87 = .ok (.invokevirtual 122, 3) := by decide +kernel
theorem dX9_readsV_90 : decode cX9_readsV 90 = .ok (.iconst 1, 1) := by decide +kernel
theorem dX9_readsV_91 : decode cX9_readsV 91 = .ok (.ireturn, 1) := by decide +kernel
theorem dX9_readsV_92 : decode cX9_readsV 92 = .ok (.aload_n 0, 1) := by decide +kernel
theorem dX9_readsV_93 : decode cX9_readsV 93 = .ok (.bipush 114, 2) := by decide +kernel
theorem dX9_readsV_95 : decode cX9_readsV 95 = .ok (.invokevirtual 126, 3) := by decide +kernel
theorem dX9_readsV_98 : decode cX9_readsV 98 = .ok (.ifCond .eq 20, 3) := by decide +kernel
theorem dX9_readsV_101 : decode cX9_readsV 101 = .ok (.aload_n 0, 1) := by decide +kernel
theorem dX9_readsV_102 : decode cX9_readsV 102 = .ok (.bipush 58, 2) := by decide +kernel
theorem dX9_readsV_104 : decode cX9_readsV 104 = .ok (.invokevirtual 126, 3) := by decide +kernel
theorem dX9_readsV_107 : decode cX9_readsV 107 = .ok (.ifCond .eq 11, 3) := by decide +kernel
theorem dX9_readsV_110 : decode cX9_readsV 110 = .ok (.aload_n 0, 1) := by decide +kernel
theorem dX9_readsV_111 : decode cX9_readsV 111 = .ok (.iconst 0, 1) := by decide +kernel
theorem dX9_readsV_112 : decode cX9_readsV 112 = .ok (.invokevirtual 115, 3) := by decide +kernel
theorem dX9_readsV_115 : decode cX9_readsV 115 = .ok (.ifCond .ne 5, 3) := by decide +kernel
theorem dX9_readsV_118 : decode cX9_readsV 118 = .ok (.iconst 0, 1) := by decide +kernel
theorem dX9_readsV_119 : decode cX9_readsV 119 = .ok (.ireturn, 1) := by decide +kernel
theorem dX9_readsV_120 : decode cX9_readsV 120 = .ok (.aload_n 0, 1) := by decide +kernel
theorem dX9_readsV_121 : decode cX9_readsV 121 = .ok (.aload_n 0, 1) := by decide +kernel
theorem dX9_readsV_122 : decode cX9_readsV 122 = .ok (.getfield 119, 3) := by decide +kernel
theorem dX9_readsV_125 : decode cX9_readsV 125 = .ok (.iload_n 1, 1) := by decide +kernel
theorem dX9_readsV_126 : decode cX9_readsV 126 = .ok (.iconst 2, 1) := by decide +kernel
theorem dX9_readsV_127 : decode cX9_readsV 127 = .ok (.iconst 2, 1) := by decide +kernel
theorem dX9_readsV_128 : decode cX9_readsV 128 = .ok (.invokevirtual 122, 3) := by decide +kernel
theorem dX9_readsV_131 : decode cX9_readsV 131 = .ok (.aload_n 0, 1) := by decide +kernel
theorem dX9_readsV_132 : decode cX9_readsV 132 = .ok (.aload_n 0, 1) := by decide +kernel
theorem dX9_readsV_133 : decode cX9_readsV 133 = .ok (.getfield 119, 3) := by decide +kernel
theorem dX9_readsV_136 : decode cX9_readsV 136 = .ok (.iload_n 1, 1) := by decide +kernel
theorem dX9_readsV_137 : decode cX9_readsV 137 = .ok (.iconst 3, 1) := by decide +kernel
theorem dX9_readsV_138 : decode cX9_readsV 138 = .ok (.aload_n 0, 1) := by decide +kernel
theorem dX9_readsV_139 : decode cX9_readsV 139 = .ok (.getfield 112, 3) := by decide +kernel
theorem dX9_readsV_142 : decode cX9_readsV 142 = .ok (.invokevirtual 122, 3) := by decide +kernel
theorem dX9_readsV_145 : decode cX9_readsV 145 = .ok (.aload_n 0, 1) := by decide +kernel
theorem dX9_readsV_146 : decode cX9_readsV 146 = .ok (.bipush 47, 2) := by decide +kernel
theorem dX9_readsV_148 : decode cX9_readsV 148 = .ok (.invokevirtual 126, 3) := by decide +kernel
theorem dX9_readsV_151 : decode cX9_readsV 151 = .ok (.ifCond .eq 11, 3) := by decide +kernel
theorem dX9_readsV_154 : decode cX9_readsV 154 = .ok (.aload_n 0, 1) := by decide +kernel
theorem dX9_readsV_155 : decode cX9_readsV 155 = .ok (.iconst 0, 1) := by decide +kernel
theorem dX9_readsV_156 : decode cX9_readsV 156 = .ok (.invokevirtual 115, 3) := by decide +kernel
theorem dX9_readsV_159 : decode cX9_readsV 159 = .ok (.ifCond .ne 5, 3) := by decide +kernel
theorem dX9_readsV_162 : decode cX9_readsV 162 = .ok (.iconst 0, 1) := by decide +kernel
theorem dX9_readsV_163 : decode cX9_readsV 163 = .ok (.ireturn, 1) := by decide +kernel
theorem dX9_readsV_164 : decode cX9_readsV 164 = .ok (.aload_n 0, 1) := by decide +kernel
theorem dX9_readsV_165 : decode cX9_readsV 165 = .ok (.aload_n 0, 1) := by decide +kernel
theorem dX9_readsV_166 : decode cX9_readsV 166 = .ok (.getfield 119, 3) := by decide +kernel
theorem dX9_readsV_169 : decode cX9_readsV 169 = .ok (.iload_n 1, 1) := by decide +kernel
theorem dX9_readsV_170 : decode cX9_readsV 170 = .ok (.iconst 4, 1) := by decide +kernel
theorem dX9_readsV_171 : decode cX9_readsV 171 = .ok (.aload_n 0, 1) := by decide +kernel
theorem dX9_readsV_172 : decode cX9_readsV 172 = .ok (.getfield 112, 3) := by decide +kernel
theorem dX9_readsV_175 : decode cX9_readsV 175 = .ok (.invokevirtual 122, 3) := by decide +kernel
theorem dX9_readsV_178 : decode cX9_readsV 178 = .ok (.iconst 1, 1) := by decide +kernel
theorem dX9_readsV_179 : decode cX9_readsV 179 = .ok (.ireturn, 1) := by decide +kernel
def fX9_readsV (g : PH) (a0 : Nat) (a1 : Int32) : Option (Int32 × PH) :=
  okb (isO g a0 9) ((fX9_readsDigit g a0 (0 : Int32)).bind fun q1 =>
  (if q1.1 = 0 then (some ((0 : Int32), q1.2)) else
  ((getI q1.2 a0 9 7).bind fun x4 =>
  ((getI q1.2 a0 9 4).bind fun x6 =>
  ((fX9_lays q1.2 a0 x4 a1 (1 : Int32) x6).bind fun q8 =>
  ((fX9_takes q8.2 a0 (119 : Int32)).bind fun q10 =>
  (if q10.1 = 0 then ((fX9_needs q10.2 a0 (114 : Int32)).bind fun q13 =>
  (if q13.1 = 0 then (some ((0 : Int32), q13.2)) else
  ((fX9_needs q13.2 a0 (58 : Int32)).bind fun q16 =>
  (if q16.1 = 0 then (some ((0 : Int32), q16.2)) else
  ((fX9_readsDigit q16.2 a0 (0 : Int32)).bind fun q19 =>
  (if q19.1 = 0 then (some ((0 : Int32), q19.2)) else
  ((getI q19.2 a0 9 7).bind fun x22 =>
  ((fX9_lays q19.2 a0 x22 a1 (2 : Int32) (2 : Int32)).bind fun q24 =>
  ((getI q24.2 a0 9 7).bind fun x26 =>
  ((getI q24.2 a0 9 4).bind fun x28 =>
  ((fX9_lays q24.2 a0 x26 a1 (3 : Int32) x28).bind fun q30 =>
  ((fX9_needs q30.2 a0 (47 : Int32)).bind fun q32 =>
  (if q32.1 = 0 then (some ((0 : Int32), q32.2)) else
  ((fX9_readsDigit q32.2 a0 (0 : Int32)).bind fun q35 =>
  (if q35.1 = 0 then (some ((0 : Int32), q35.2)) else
  ((getI q35.2 a0 9 7).bind fun x38 =>
  ((getI q35.2 a0 9 4).bind fun x40 =>
  ((fX9_lays q35.2 a0 x38 a1 (4 : Int32) x40).bind fun q42 =>
  (some ((1 : Int32), q42.2)))))))))))))))))))) else
  ((fX9_readsDigit q10.2 a0 (0 : Int32)).bind fun q44 =>
  (if q44.1 = 0 then (some ((0 : Int32), q44.2)) else
  ((getI q44.2 a0 9 7).bind fun x47 =>
  ((getI q44.2 a0 9 4).bind fun x49 =>
  ((fX9_lays q44.2 a0 x47 a1 (2 : Int32) x49).bind fun q51 =>
  ((fX9_needs q51.2 a0 (58 : Int32)).bind fun q53 =>
  (if q53.1 = 0 then (some ((0 : Int32), q53.2)) else
  ((fX9_readsDigit q53.2 a0 (0 : Int32)).bind fun q56 =>
  (if q56.1 = 0 then (some ((0 : Int32), q56.2)) else
  ((getI q56.2 a0 9 7).bind fun x59 =>
  ((getI q56.2 a0 9 4).bind fun x61 =>
  ((fX9_lays q56.2 a0 x59 a1 (3 : Int32) x61).bind fun q63 =>
  (some ((1 : Int32), q63.2)))))))))))))))))))))
theorem oX9_readsV {g : PH} {a0 : Nat} {a1 : Int32} {q : (Int32 × PH)} (h : fX9_readsV g a0 a1 = some q) : isO g a0 9 = true := by unfold fX9_readsV at h; exact (okb_some h).1
theorem hyX9_readsV : hMet yX9_readsV RX9 cX9_readsV 2 (some .boolean) 1 := ⟨wd_1227, wd_1226, ws_58, wd_7, rfl, by decide +kernel, by decide +kernel, by decide +kernel⟩
set_option maxHeartbeats 4000000 in
set_option maxRecDepth 100000 in
theorem mX9_readsV (l : Launch) (E : HE) (sz : Nat) {g g' : PH} {a0 : Nat} {a1 : Int32} {r : Int32} (hf : fX9_readsV g a0 a1 = some (r, g')) : hM l E yX9_readsV cX9_readsV 2 (some .boolean) 4 83 0 0 sz g [.ref a0, .int a1] (some (.int r)) g' := by
  refine hM.of (by decide) (Nat.le_of_ble_eq_true rfl) (fun K hl C hin hsz => ?_)
  subst hl
  subst hsz
  have C : VC K E 2 cX9_readsV RX9 (some .boolean) := C
  unfold fX9_readsV at hf
  replace hf := okb_some hf
  obtain ⟨ho, hf⟩ := hf
  refine V.start (L' := [(0, .ref a0), (1, .int a1)]) rfl ?_
  refine V.aload_n (pc := 0) C dX9_readsV_0 0 rfl ?_
  refine V.iconst (pc := 1) C dX9_readsV_1 (v := (0 : Int32)) (by decide) ?_
  replace hf := ob_some hf
  obtain ⟨q1, h2, hf⟩ := hf
  refine V.callV0i (pc := 2) C hyX9_readsDigit wd_1228 (mX9_readsDigit (r := q1.1) (g' := q1.2) K.2.1 E (kS K) h2) rfl rfl rfl (oX9_readsDigit h2) ⟨Nat.le_of_ble_eq_true rfl, Nat.le_of_ble_eq_true rfl⟩ (Nat.le_of_ble_eq_true rfl) dX9_readsV_2 ⟨Nat.zero_le _, Nat.zero_le _⟩ rfl ?_
  refine V.if_ne (pc := 5) (t := 10) C dX9_readsV_5 (by decide) (fun c3 => ?_) (fun c3 => ?_)
  · replace hf := ite_f c3 hf
    refine V.aload_n (pc := 10) C dX9_readsV_10 0 rfl ?_
    refine V.aload_n (pc := 11) C dX9_readsV_11 0 rfl ?_
    replace hf := ob_some hf
    obtain ⟨x4, h5, hf⟩ := hf
    refine V.getI (pc := 12) C kX9 (k := 7) (by decide) wd_1057 h5 dX9_readsV_12 ?_
    refine V.iload_n (pc := 15) C dX9_readsV_15 1 rfl ?_
    refine V.iconst (pc := 16) C dX9_readsV_16 (v := (1 : Int32)) (by decide) ?_
    refine V.aload_n (pc := 17) C dX9_readsV_17 0 rfl ?_
    replace hf := ob_some hf
    obtain ⟨x6, h7, hf⟩ := hf
    refine V.getI (pc := 18) C kX9 (k := 4) (by decide) wd_1054 h7 dX9_readsV_18 ?_
    replace hf := ob_some hf
    obtain ⟨q8, h9, hf⟩ := hf
    refine V.callV0v (pc := 21) C hyX9_lays wd_1216 (mX9_lays (r := q8.1) (g' := q8.2) K.2.1 E (kS K) h9) rfl rfl rfl (oX9_lays h9) ⟨Nat.le_of_ble_eq_true rfl, Nat.le_of_ble_eq_true rfl⟩ (Nat.le_of_ble_eq_true rfl) dX9_readsV_21 ⟨Nat.zero_le _, Nat.zero_le _⟩ rfl ?_
    refine V.aload_n (pc := 24) C dX9_readsV_24 0 rfl ?_
    refine V.bipush (pc := 25) C dX9_readsV_25 (v := (119 : Int32)) (by decide) ?_
    replace hf := ob_some hf
    obtain ⟨q10, h11, hf⟩ := hf
    refine V.callV0i (pc := 27) C hyX9_takes wd_1232 (mX9_takes (r := q10.1) (g' := q10.2) K.2.1 E (kS K) h11) rfl rfl rfl (oX9_takes h11) ⟨Nat.le_of_ble_eq_true rfl, Nat.le_of_ble_eq_true rfl⟩ (Nat.le_of_ble_eq_true rfl) dX9_readsV_27 ⟨Nat.zero_le _, Nat.zero_le _⟩ rfl ?_
    refine V.if_eq (pc := 30) (t := 92) C dX9_readsV_30 (by decide) (fun c12 => ?_) (fun c12 => ?_)
    · replace hf := ite_t c12 hf
      refine V.aload_n (pc := 92) C dX9_readsV_92 0 rfl ?_
      refine V.bipush (pc := 93) C dX9_readsV_93 (v := (114 : Int32)) (by decide) ?_
      replace hf := ob_some hf
      obtain ⟨q13, h14, hf⟩ := hf
      refine V.callV0i (pc := 95) C hyX9_needs wd_1236 (mX9_needs (r := q13.1) (g' := q13.2) K.2.1 E (kS K) h14) rfl rfl rfl (oX9_needs h14) ⟨Nat.le_of_ble_eq_true rfl, Nat.le_of_ble_eq_true rfl⟩ (Nat.le_of_ble_eq_true rfl) dX9_readsV_95 ⟨Nat.zero_le _, Nat.zero_le _⟩ rfl ?_
      refine V.if_eq (pc := 98) (t := 118) C dX9_readsV_98 (by decide) (fun c15 => ?_) (fun c15 => ?_)
      · replace hf := ite_t c15 hf
        refine V.iconst (pc := 118) C dX9_readsV_118 (v := (0 : Int32)) (by decide) ?_
        obtain ⟨f1, f2⟩ := fin2 hf
        clear hf
        subst f1
        subst f2
        exact V.zret (pc := 119) C rfl rfl dX9_readsV_119
      replace hf := ite_f c15 hf
      refine V.aload_n (pc := 101) C dX9_readsV_101 0 rfl ?_
      refine V.bipush (pc := 102) C dX9_readsV_102 (v := (58 : Int32)) (by decide) ?_
      replace hf := ob_some hf
      obtain ⟨q16, h17, hf⟩ := hf
      refine V.callV0i (pc := 104) C hyX9_needs wd_1236 (mX9_needs (r := q16.1) (g' := q16.2) K.2.1 E (kS K) h17) rfl rfl rfl (oX9_needs h17) ⟨Nat.le_of_ble_eq_true rfl, Nat.le_of_ble_eq_true rfl⟩ (Nat.le_of_ble_eq_true rfl) dX9_readsV_104 ⟨Nat.zero_le _, Nat.zero_le _⟩ rfl ?_
      refine V.if_eq (pc := 107) (t := 118) C dX9_readsV_107 (by decide) (fun c18 => ?_) (fun c18 => ?_)
      · replace hf := ite_t c18 hf
        refine V.iconst (pc := 118) C dX9_readsV_118 (v := (0 : Int32)) (by decide) ?_
        obtain ⟨f1, f2⟩ := fin2 hf
        clear hf
        subst f1
        subst f2
        exact V.zret (pc := 119) C rfl rfl dX9_readsV_119
      replace hf := ite_f c18 hf
      refine V.aload_n (pc := 110) C dX9_readsV_110 0 rfl ?_
      refine V.iconst (pc := 111) C dX9_readsV_111 (v := (0 : Int32)) (by decide) ?_
      replace hf := ob_some hf
      obtain ⟨q19, h20, hf⟩ := hf
      refine V.callV0i (pc := 112) C hyX9_readsDigit wd_1228 (mX9_readsDigit (r := q19.1) (g' := q19.2) K.2.1 E (kS K) h20) rfl rfl rfl (oX9_readsDigit h20) ⟨Nat.le_of_ble_eq_true rfl, Nat.le_of_ble_eq_true rfl⟩ (Nat.le_of_ble_eq_true rfl) dX9_readsV_112 ⟨Nat.zero_le _, Nat.zero_le _⟩ rfl ?_
      refine V.if_ne (pc := 115) (t := 120) C dX9_readsV_115 (by decide) (fun c21 => ?_) (fun c21 => ?_)
      · replace hf := ite_f c21 hf
        refine V.aload_n (pc := 120) C dX9_readsV_120 0 rfl ?_
        refine V.aload_n (pc := 121) C dX9_readsV_121 0 rfl ?_
        replace hf := ob_some hf
        obtain ⟨x22, h23, hf⟩ := hf
        refine V.getI (pc := 122) C kX9 (k := 7) (by decide) wd_1057 h23 dX9_readsV_122 ?_
        refine V.iload_n (pc := 125) C dX9_readsV_125 1 rfl ?_
        refine V.iconst (pc := 126) C dX9_readsV_126 (v := (2 : Int32)) (by decide) ?_
        refine V.iconst (pc := 127) C dX9_readsV_127 (v := (2 : Int32)) (by decide) ?_
        replace hf := ob_some hf
        obtain ⟨q24, h25, hf⟩ := hf
        refine V.callV0v (pc := 128) C hyX9_lays wd_1216 (mX9_lays (r := q24.1) (g' := q24.2) K.2.1 E (kS K) h25) rfl rfl rfl (oX9_lays h25) ⟨Nat.le_of_ble_eq_true rfl, Nat.le_of_ble_eq_true rfl⟩ (Nat.le_of_ble_eq_true rfl) dX9_readsV_128 ⟨Nat.zero_le _, Nat.zero_le _⟩ rfl ?_
        refine V.aload_n (pc := 131) C dX9_readsV_131 0 rfl ?_
        refine V.aload_n (pc := 132) C dX9_readsV_132 0 rfl ?_
        replace hf := ob_some hf
        obtain ⟨x26, h27, hf⟩ := hf
        refine V.getI (pc := 133) C kX9 (k := 7) (by decide) wd_1057 h27 dX9_readsV_133 ?_
        refine V.iload_n (pc := 136) C dX9_readsV_136 1 rfl ?_
        refine V.iconst (pc := 137) C dX9_readsV_137 (v := (3 : Int32)) (by decide) ?_
        refine V.aload_n (pc := 138) C dX9_readsV_138 0 rfl ?_
        replace hf := ob_some hf
        obtain ⟨x28, h29, hf⟩ := hf
        refine V.getI (pc := 139) C kX9 (k := 4) (by decide) wd_1054 h29 dX9_readsV_139 ?_
        replace hf := ob_some hf
        obtain ⟨q30, h31, hf⟩ := hf
        refine V.callV0v (pc := 142) C hyX9_lays wd_1216 (mX9_lays (r := q30.1) (g' := q30.2) K.2.1 E (kS K) h31) rfl rfl rfl (oX9_lays h31) ⟨Nat.le_of_ble_eq_true rfl, Nat.le_of_ble_eq_true rfl⟩ (Nat.le_of_ble_eq_true rfl) dX9_readsV_142 ⟨Nat.zero_le _, Nat.zero_le _⟩ rfl ?_
        refine V.aload_n (pc := 145) C dX9_readsV_145 0 rfl ?_
        refine V.bipush (pc := 146) C dX9_readsV_146 (v := (47 : Int32)) (by decide) ?_
        replace hf := ob_some hf
        obtain ⟨q32, h33, hf⟩ := hf
        refine V.callV0i (pc := 148) C hyX9_needs wd_1236 (mX9_needs (r := q32.1) (g' := q32.2) K.2.1 E (kS K) h33) rfl rfl rfl (oX9_needs h33) ⟨Nat.le_of_ble_eq_true rfl, Nat.le_of_ble_eq_true rfl⟩ (Nat.le_of_ble_eq_true rfl) dX9_readsV_148 ⟨Nat.zero_le _, Nat.zero_le _⟩ rfl ?_
        refine V.if_eq (pc := 151) (t := 162) C dX9_readsV_151 (by decide) (fun c34 => ?_) (fun c34 => ?_)
        · replace hf := ite_t c34 hf
          refine V.iconst (pc := 162) C dX9_readsV_162 (v := (0 : Int32)) (by decide) ?_
          obtain ⟨f1, f2⟩ := fin2 hf
          clear hf
          subst f1
          subst f2
          exact V.zret (pc := 163) C rfl rfl dX9_readsV_163
        replace hf := ite_f c34 hf
        refine V.aload_n (pc := 154) C dX9_readsV_154 0 rfl ?_
        refine V.iconst (pc := 155) C dX9_readsV_155 (v := (0 : Int32)) (by decide) ?_
        replace hf := ob_some hf
        obtain ⟨q35, h36, hf⟩ := hf
        refine V.callV0i (pc := 156) C hyX9_readsDigit wd_1228 (mX9_readsDigit (r := q35.1) (g' := q35.2) K.2.1 E (kS K) h36) rfl rfl rfl (oX9_readsDigit h36) ⟨Nat.le_of_ble_eq_true rfl, Nat.le_of_ble_eq_true rfl⟩ (Nat.le_of_ble_eq_true rfl) dX9_readsV_156 ⟨Nat.zero_le _, Nat.zero_le _⟩ rfl ?_
        refine V.if_ne (pc := 159) (t := 164) C dX9_readsV_159 (by decide) (fun c37 => ?_) (fun c37 => ?_)
        · replace hf := ite_f c37 hf
          refine V.aload_n (pc := 164) C dX9_readsV_164 0 rfl ?_
          refine V.aload_n (pc := 165) C dX9_readsV_165 0 rfl ?_
          replace hf := ob_some hf
          obtain ⟨x38, h39, hf⟩ := hf
          refine V.getI (pc := 166) C kX9 (k := 7) (by decide) wd_1057 h39 dX9_readsV_166 ?_
          refine V.iload_n (pc := 169) C dX9_readsV_169 1 rfl ?_
          refine V.iconst (pc := 170) C dX9_readsV_170 (v := (4 : Int32)) (by decide) ?_
          refine V.aload_n (pc := 171) C dX9_readsV_171 0 rfl ?_
          replace hf := ob_some hf
          obtain ⟨x40, h41, hf⟩ := hf
          refine V.getI (pc := 172) C kX9 (k := 4) (by decide) wd_1054 h41 dX9_readsV_172 ?_
          replace hf := ob_some hf
          obtain ⟨q42, h43, hf⟩ := hf
          refine V.callV0v (pc := 175) C hyX9_lays wd_1216 (mX9_lays (r := q42.1) (g' := q42.2) K.2.1 E (kS K) h43) rfl rfl rfl (oX9_lays h43) ⟨Nat.le_of_ble_eq_true rfl, Nat.le_of_ble_eq_true rfl⟩ (Nat.le_of_ble_eq_true rfl) dX9_readsV_175 ⟨Nat.zero_le _, Nat.zero_le _⟩ rfl ?_
          refine V.iconst (pc := 178) C dX9_readsV_178 (v := (1 : Int32)) (by decide) ?_
          obtain ⟨f1, f2⟩ := fin2 hf
          clear hf
          subst f1
          subst f2
          exact V.zret (pc := 179) C rfl rfl dX9_readsV_179
        replace hf := ite_t c37 hf
        refine V.iconst (pc := 162) C dX9_readsV_162 (v := (0 : Int32)) (by decide) ?_
        obtain ⟨f1, f2⟩ := fin2 hf
        clear hf
        subst f1
        subst f2
        exact V.zret (pc := 163) C rfl rfl dX9_readsV_163
      replace hf := ite_t c21 hf
      refine V.iconst (pc := 118) C dX9_readsV_118 (v := (0 : Int32)) (by decide) ?_
      obtain ⟨f1, f2⟩ := fin2 hf
      clear hf
      subst f1
      subst f2
      exact V.zret (pc := 119) C rfl rfl dX9_readsV_119
    replace hf := ite_f c12 hf
    refine V.aload_n (pc := 33) C dX9_readsV_33 0 rfl ?_
    refine V.iconst (pc := 34) C dX9_readsV_34 (v := (0 : Int32)) (by decide) ?_
    replace hf := ob_some hf
    obtain ⟨q44, h45, hf⟩ := hf
    refine V.callV0i (pc := 35) C hyX9_readsDigit wd_1228 (mX9_readsDigit (r := q44.1) (g' := q44.2) K.2.1 E (kS K) h45) rfl rfl rfl (oX9_readsDigit h45) ⟨Nat.le_of_ble_eq_true rfl, Nat.le_of_ble_eq_true rfl⟩ (Nat.le_of_ble_eq_true rfl) dX9_readsV_35 ⟨Nat.zero_le _, Nat.zero_le _⟩ rfl ?_
    refine V.if_ne (pc := 38) (t := 43) C dX9_readsV_38 (by decide) (fun c46 => ?_) (fun c46 => ?_)
    · replace hf := ite_f c46 hf
      refine V.aload_n (pc := 43) C dX9_readsV_43 0 rfl ?_
      refine V.aload_n (pc := 44) C dX9_readsV_44 0 rfl ?_
      replace hf := ob_some hf
      obtain ⟨x47, h48, hf⟩ := hf
      refine V.getI (pc := 45) C kX9 (k := 7) (by decide) wd_1057 h48 dX9_readsV_45 ?_
      refine V.iload_n (pc := 48) C dX9_readsV_48 1 rfl ?_
      refine V.iconst (pc := 49) C dX9_readsV_49 (v := (2 : Int32)) (by decide) ?_
      refine V.aload_n (pc := 50) C dX9_readsV_50 0 rfl ?_
      replace hf := ob_some hf
      obtain ⟨x49, h50, hf⟩ := hf
      refine V.getI (pc := 51) C kX9 (k := 4) (by decide) wd_1054 h50 dX9_readsV_51 ?_
      replace hf := ob_some hf
      obtain ⟨q51, h52, hf⟩ := hf
      refine V.callV0v (pc := 54) C hyX9_lays wd_1216 (mX9_lays (r := q51.1) (g' := q51.2) K.2.1 E (kS K) h52) rfl rfl rfl (oX9_lays h52) ⟨Nat.le_of_ble_eq_true rfl, Nat.le_of_ble_eq_true rfl⟩ (Nat.le_of_ble_eq_true rfl) dX9_readsV_54 ⟨Nat.zero_le _, Nat.zero_le _⟩ rfl ?_
      refine V.aload_n (pc := 57) C dX9_readsV_57 0 rfl ?_
      refine V.bipush (pc := 58) C dX9_readsV_58 (v := (58 : Int32)) (by decide) ?_
      replace hf := ob_some hf
      obtain ⟨q53, h54, hf⟩ := hf
      refine V.callV0i (pc := 60) C hyX9_needs wd_1236 (mX9_needs (r := q53.1) (g' := q53.2) K.2.1 E (kS K) h54) rfl rfl rfl (oX9_needs h54) ⟨Nat.le_of_ble_eq_true rfl, Nat.le_of_ble_eq_true rfl⟩ (Nat.le_of_ble_eq_true rfl) dX9_readsV_60 ⟨Nat.zero_le _, Nat.zero_le _⟩ rfl ?_
      refine V.if_eq (pc := 63) (t := 74) C dX9_readsV_63 (by decide) (fun c55 => ?_) (fun c55 => ?_)
      · replace hf := ite_t c55 hf
        refine V.iconst (pc := 74) C dX9_readsV_74 (v := (0 : Int32)) (by decide) ?_
        obtain ⟨f1, f2⟩ := fin2 hf
        clear hf
        subst f1
        subst f2
        exact V.zret (pc := 75) C rfl rfl dX9_readsV_75
      replace hf := ite_f c55 hf
      refine V.aload_n (pc := 66) C dX9_readsV_66 0 rfl ?_
      refine V.iconst (pc := 67) C dX9_readsV_67 (v := (0 : Int32)) (by decide) ?_
      replace hf := ob_some hf
      obtain ⟨q56, h57, hf⟩ := hf
      refine V.callV0i (pc := 68) C hyX9_readsDigit wd_1228 (mX9_readsDigit (r := q56.1) (g' := q56.2) K.2.1 E (kS K) h57) rfl rfl rfl (oX9_readsDigit h57) ⟨Nat.le_of_ble_eq_true rfl, Nat.le_of_ble_eq_true rfl⟩ (Nat.le_of_ble_eq_true rfl) dX9_readsV_68 ⟨Nat.zero_le _, Nat.zero_le _⟩ rfl ?_
      refine V.if_ne (pc := 71) (t := 76) C dX9_readsV_71 (by decide) (fun c58 => ?_) (fun c58 => ?_)
      · replace hf := ite_f c58 hf
        refine V.aload_n (pc := 76) C dX9_readsV_76 0 rfl ?_
        refine V.aload_n (pc := 77) C dX9_readsV_77 0 rfl ?_
        replace hf := ob_some hf
        obtain ⟨x59, h60, hf⟩ := hf
        refine V.getI (pc := 78) C kX9 (k := 7) (by decide) wd_1057 h60 dX9_readsV_78 ?_
        refine V.iload_n (pc := 81) C dX9_readsV_81 1 rfl ?_
        refine V.iconst (pc := 82) C dX9_readsV_82 (v := (3 : Int32)) (by decide) ?_
        refine V.aload_n (pc := 83) C dX9_readsV_83 0 rfl ?_
        replace hf := ob_some hf
        obtain ⟨x61, h62, hf⟩ := hf
        refine V.getI (pc := 84) C kX9 (k := 4) (by decide) wd_1054 h62 dX9_readsV_84 ?_
        replace hf := ob_some hf
        obtain ⟨q63, h64, hf⟩ := hf
        refine V.callV0v (pc := 87) C hyX9_lays wd_1216 (mX9_lays (r := q63.1) (g' := q63.2) K.2.1 E (kS K) h64) rfl rfl rfl (oX9_lays h64) ⟨Nat.le_of_ble_eq_true rfl, Nat.le_of_ble_eq_true rfl⟩ (Nat.le_of_ble_eq_true rfl) dX9_readsV_87 ⟨Nat.zero_le _, Nat.zero_le _⟩ rfl ?_
        refine V.iconst (pc := 90) C dX9_readsV_90 (v := (1 : Int32)) (by decide) ?_
        obtain ⟨f1, f2⟩ := fin2 hf
        clear hf
        subst f1
        subst f2
        exact V.zret (pc := 91) C rfl rfl dX9_readsV_91
      replace hf := ite_t c58 hf
      refine V.iconst (pc := 74) C dX9_readsV_74 (v := (0 : Int32)) (by decide) ?_
      obtain ⟨f1, f2⟩ := fin2 hf
      clear hf
      subst f1
      subst f2
      exact V.zret (pc := 75) C rfl rfl dX9_readsV_75
    replace hf := ite_t c46 hf
    refine V.iconst (pc := 41) C dX9_readsV_41 (v := (0 : Int32)) (by decide) ?_
    obtain ⟨f1, f2⟩ := fin2 hf
    clear hf
    subst f1
    subst f2
    exact V.zret (pc := 42) C rfl rfl dX9_readsV_42
  replace hf := ite_t c3 hf
  refine V.iconst (pc := 8) C dX9_readsV_8 (v := (0 : Int32)) (by decide) ?_
  obtain ⟨f1, f2⟩ := fin2 hf
  clear hf
  subst f1
  subst f2
  exact V.zret (pc := 9) C rfl rfl dX9_readsV_9
theorem dX9_readsA_0 : decode cX9_readsA 0 = .ok (.aload_n 0, 1) := by decide +kernel
theorem dX9_readsA_1 : decode cX9_readsA 1 = .ok (.iconst 0, 1) := by decide +kernel
theorem dX9_readsA_2 : decode cX9_readsA 2 = .ok (.invokevirtual 115, 3) := by decide +kernel
theorem dX9_readsA_5 : decode cX9_readsA 5 = .ok (.ifCond .ne 5, 3) := by decide +kernel
theorem dX9_readsA_8 : decode cX9_readsA 8 = .ok (.iconst 0, 1) := by decide +kernel
theorem dX9_readsA_9 : decode cX9_readsA 9 = .ok (.ireturn, 1) := by decide +kernel
theorem dX9_readsA_10 : decode cX9_readsA 10 = .ok (.aload_n 0, 1) := by decide +kernel
theorem dX9_readsA_11 : decode cX9_readsA 11 = .ok (.aload_n 0, 1) := by decide +kernel
theorem dX9_readsA_12 : decode cX9_readsA 12 = .ok (.getfield 119, 3) := by decide +kernel
theorem dX9_readsA_15 : decode cX9_readsA 15 = .ok (.iload_n 1, 1) := by decide +kernel
theorem dX9_readsA_16 : decode cX9_readsA 16 = .ok (.iconst 1, 1) := by decide +kernel
theorem dX9_readsA_17 : decode cX9_readsA 17 = .ok (.aload_n 0, 1) := by decide +kernel
theorem dX9_readsA_18 : decode cX9_readsA 18 = .ok (.getfield 112, 3) := by decide +kernel
theorem dX9_readsA_21 : decode cX9_readsA 21 = .ok (.invokevirtual 122, 3) := by decide +kernel
theorem dX9_readsA_24 : decode cX9_readsA 24 = .ok (.iconst 2, 1) := by decide +kernel
theorem dX9_readsA_25 : decode cX9_readsA 25 = .ok (.istore_n 2, 1) := by decide +kernel
theorem dX9_readsA_26 : decode cX9_readsA 26 = .ok (.aload_n 0, 1) := by decide +kernel
theorem dX9_readsA_27 : decode cX9_readsA 27 = .ok (.bipush 119, 2) := by decide +kernel
theorem dX9_readsA_29 : decode cX9_readsA 29 = .ok (.invokevirtual 104, 3) := by decide +kernel
theorem dX9_readsA_32 : decode cX9_readsA 32 = .ok (.ifCond .eq 21, 3) := by decide +kernel
theorem dX9_readsA_35 : decode cX9_readsA 35 = .ok (.aload_n 0, 1) := by decide +kernel
theorem dX9_readsA_36 : decode cX9_readsA 36 = .ok (.iconst 0, 1) := by decide +kernel
theorem dX9_readsA_37 : decode cX9_readsA 37 = .ok (.invokevirtual 115, 3) := by decide +kernel
theorem dX9_readsA_40 : decode cX9_readsA 40 = .ok (.ifCond .ne 5, 3) := by decide +kernel
theorem dX9_readsA_43 : decode cX9_readsA 43 = .ok (.iconst 0, 1) := by decide +kernel
theorem dX9_readsA_44 : decode cX9_readsA 44 = .ok (.ireturn, 1) := by decide +kernel
theorem dX9_readsA_45 : decode cX9_readsA 45 = .ok (.aload_n 0, 1) := by decide +kernel
theorem dX9_readsA_46 : decode cX9_readsA 46 = .ok (.getfield 112, 3) := by decide +kernel
theorem dX9_readsA_49 : decode cX9_readsA 49 = .ok (.istore_n 2, 1) := by decide +kernel
theorem dX9_readsA_50 : decode cX9_readsA 50 = .ok (.goto 14, 3) := by decide +kernel
theorem dX9_readsA_53 : decode cX9_readsA 53 = .ok (.aload_n 0, 1) := by decide +kernel
theorem dX9_readsA_54 : decode cX9_readsA 54 = .ok (.bipush 114, 2) := by decide +kernel
theorem dX9_readsA_56 : decode cX9_readsA 56 = .ok (.invokevirtual 126, 3) := by decide +kernel
theorem dX9_readsA_59 : decode cX9_readsA 59 = .ok (.ifCond .ne 5, 3) := by decide +kernel
theorem dX9_readsA_62 : decode cX9_readsA 62 = .ok (.iconst 0, 1) := by decide +kernel
theorem dX9_readsA_63 : decode cX9_readsA 63 = .ok (.ireturn, 1) := by decide +kernel
theorem dX9_readsA_64 : decode cX9_readsA 64 = .ok (.aload_n 0, 1) := by decide +kernel
theorem dX9_readsA_65 : decode cX9_readsA 65 = .ok (.aload_n 0, 1) := by decide +kernel
theorem dX9_readsA_66 : decode cX9_readsA 66 = .ok (.getfield 119, 3) := by decide +kernel
theorem dX9_readsA_69 : decode cX9_readsA 69 = .ok (.iload_n 1, 1) := by decide +kernel
theorem dX9_readsA_70 : decode cX9_readsA 70 = .ok (.iconst 2, 1) := by decide +kernel
theorem dX9_readsA_71 : decode cX9_readsA 71 = .ok (.iload_n 2, 1) := by decide +kernel
theorem dX9_readsA_72 : decode cX9_readsA 72 = .ok (.invokevirtual 122, 3) := by decide +kernel
theorem dX9_readsA_75 : decode cX9_readsA 75 = .ok (.aload_n 0, 1) := by decide +kernel
theorem dX9_readsA_76 : decode cX9_readsA 76 = .ok (.bipush 58, 2) := by decide +kernel
theorem dX9_readsA_78 : decode cX9_readsA 78 = .ok (.invokevirtual 126, 3) := by decide +kernel
theorem dX9_readsA_81 : decode cX9_readsA 81 = .ok (.ifCond .eq 11, 3) := by decide +kernel
theorem dX9_readsA_84 : decode cX9_readsA 84 = .ok (.aload_n 0, 1) := by decide +kernel
theorem dX9_readsA_85 : decode cX9_readsA 85 = .ok (.iconst 1, 1) := by decide +kernel
theorem dX9_readsA_86 : decode cX9_readsA 86 = .ok (.invokevirtual 115, 3) := by decide +kernel
theorem dX9_readsA_89 : decode cX9_readsA 89 = .ok (.ifCond .ne 5, 3) := by decide +kernel
theorem dX9_readsA_92 : decode cX9_readsA 92 = .ok (.iconst 0, 1) := by decide +kernel
theorem dX9_readsA_93 : decode cX9_readsA 93 = .ok (.ireturn, 1) := by decide +kernel
theorem dX9_readsA_94 : decode cX9_readsA 94 = .ok (.aload_n 0, 1) := by decide +kernel
theorem dX9_readsA_95 : decode cX9_readsA 95 = .ok (.aload_n 0, 1) := by decide +kernel
theorem dX9_readsA_96 : decode cX9_readsA 96 = .ok (.getfield 119, 3) := by decide +kernel
theorem dX9_readsA_99 : decode cX9_readsA 99 = .ok (.iload_n 1, 1) := by decide +kernel
theorem dX9_readsA_100 : decode cX9_readsA 100 = .ok (.iconst 3, 1) := by decide +kernel
theorem dX9_readsA_101 : decode cX9_readsA 101 = .ok (.aload_n 0, 1) := by decide +kernel
theorem dX9_readsA_102 : decode cX9_readsA 102 = .ok (.getfield 112, 3) := by decide +kernel
theorem dX9_readsA_105 : decode cX9_readsA 105 = .ok (.invokevirtual 122, 3) := by decide +kernel
theorem dX9_readsA_108 : decode cX9_readsA 108 = .ok (.iconst 1, 1) := by decide +kernel
theorem dX9_readsA_109 : decode cX9_readsA 109 = .ok (.ireturn, 1) := by decide +kernel
def fX9_readsA_64  (g : PH) (v0 : Nat) (v1 : Int32) (v2 : Int32) : Option (Int32 × PH) :=
  (getI g v0 9 7).bind fun x1 =>
  ((fX9_lays g v0 x1 v1 (2 : Int32) v2).bind fun q3 =>
  ((fX9_needs q3.2 v0 (58 : Int32)).bind fun q5 =>
  (if q5.1 = 0 then (some ((0 : Int32), q5.2)) else
  ((fX9_readsDigit q5.2 v0 (1 : Int32)).bind fun q8 =>
  (if q8.1 = 0 then (some ((0 : Int32), q8.2)) else
  ((getI q8.2 v0 9 7).bind fun x11 =>
  ((getI q8.2 v0 9 4).bind fun x13 =>
  ((fX9_lays q8.2 v0 x11 v1 (3 : Int32) x13).bind fun q15 =>
  (some ((1 : Int32), q15.2))))))))))
set_option maxHeartbeats 4000000 in
set_option maxRecDepth 100000 in
theorem bX9_readsA_64 {K : HK} {E : HE} {r : Int32} {g' : PH}  (C : VC K E 3 cX9_readsA RX9 (some .boolean))  {g : PH} {v0 : Nat} {v1 : Int32} {v2 : Int32} (hf : fX9_readsA_64  g v0 v1 v2 = some (r, g')) : V K E (hRm 4 83 0 0) 3 (hZ K E (some (.int r)) g' 0 0) 0 0 (kS K) g 64 [(0, .ref v0), (1, .int v1), (2, .int v2)] [] := by
  unfold fX9_readsA_64 at hf
  refine V.aload_n (pc := 64) C dX9_readsA_64 0 rfl ?_
  refine V.aload_n (pc := 65) C dX9_readsA_65 0 rfl ?_
  replace hf := ob_some hf
  obtain ⟨x1, h2, hf⟩ := hf
  refine V.getI (pc := 66) C kX9 (k := 7) (by decide) wd_1057 h2 dX9_readsA_66 ?_
  refine V.iload_n (pc := 69) C dX9_readsA_69 1 rfl ?_
  refine V.iconst (pc := 70) C dX9_readsA_70 (v := (2 : Int32)) (by decide) ?_
  refine V.iload_n (pc := 71) C dX9_readsA_71 2 rfl ?_
  replace hf := ob_some hf
  obtain ⟨q3, h4, hf⟩ := hf
  refine V.callV0v (pc := 72) C hyX9_lays wd_1216 (mX9_lays (r := q3.1) (g' := q3.2) K.2.1 E (kS K) h4) rfl rfl rfl (oX9_lays h4) ⟨Nat.le_of_ble_eq_true rfl, Nat.le_of_ble_eq_true rfl⟩ (Nat.le_of_ble_eq_true rfl) dX9_readsA_72 ⟨Nat.zero_le _, Nat.zero_le _⟩ rfl ?_
  refine V.aload_n (pc := 75) C dX9_readsA_75 0 rfl ?_
  refine V.bipush (pc := 76) C dX9_readsA_76 (v := (58 : Int32)) (by decide) ?_
  replace hf := ob_some hf
  obtain ⟨q5, h6, hf⟩ := hf
  refine V.callV0i (pc := 78) C hyX9_needs wd_1236 (mX9_needs (r := q5.1) (g' := q5.2) K.2.1 E (kS K) h6) rfl rfl rfl (oX9_needs h6) ⟨Nat.le_of_ble_eq_true rfl, Nat.le_of_ble_eq_true rfl⟩ (Nat.le_of_ble_eq_true rfl) dX9_readsA_78 ⟨Nat.zero_le _, Nat.zero_le _⟩ rfl ?_
  refine V.if_eq (pc := 81) (t := 92) C dX9_readsA_81 (by decide) (fun c7 => ?_) (fun c7 => ?_)
  · replace hf := ite_t c7 hf
    refine V.iconst (pc := 92) C dX9_readsA_92 (v := (0 : Int32)) (by decide) ?_
    obtain ⟨f1, f2⟩ := fin2 hf
    clear hf
    subst f1
    subst f2
    exact V.zret (pc := 93) C rfl rfl dX9_readsA_93
  replace hf := ite_f c7 hf
  refine V.aload_n (pc := 84) C dX9_readsA_84 0 rfl ?_
  refine V.iconst (pc := 85) C dX9_readsA_85 (v := (1 : Int32)) (by decide) ?_
  replace hf := ob_some hf
  obtain ⟨q8, h9, hf⟩ := hf
  refine V.callV0i (pc := 86) C hyX9_readsDigit wd_1228 (mX9_readsDigit (r := q8.1) (g' := q8.2) K.2.1 E (kS K) h9) rfl rfl rfl (oX9_readsDigit h9) ⟨Nat.le_of_ble_eq_true rfl, Nat.le_of_ble_eq_true rfl⟩ (Nat.le_of_ble_eq_true rfl) dX9_readsA_86 ⟨Nat.zero_le _, Nat.zero_le _⟩ rfl ?_
  refine V.if_ne (pc := 89) (t := 94) C dX9_readsA_89 (by decide) (fun c10 => ?_) (fun c10 => ?_)
  · replace hf := ite_f c10 hf
    refine V.aload_n (pc := 94) C dX9_readsA_94 0 rfl ?_
    refine V.aload_n (pc := 95) C dX9_readsA_95 0 rfl ?_
    replace hf := ob_some hf
    obtain ⟨x11, h12, hf⟩ := hf
    refine V.getI (pc := 96) C kX9 (k := 7) (by decide) wd_1057 h12 dX9_readsA_96 ?_
    refine V.iload_n (pc := 99) C dX9_readsA_99 1 rfl ?_
    refine V.iconst (pc := 100) C dX9_readsA_100 (v := (3 : Int32)) (by decide) ?_
    refine V.aload_n (pc := 101) C dX9_readsA_101 0 rfl ?_
    replace hf := ob_some hf
    obtain ⟨x13, h14, hf⟩ := hf
    refine V.getI (pc := 102) C kX9 (k := 4) (by decide) wd_1054 h14 dX9_readsA_102 ?_
    replace hf := ob_some hf
    obtain ⟨q15, h16, hf⟩ := hf
    refine V.callV0v (pc := 105) C hyX9_lays wd_1216 (mX9_lays (r := q15.1) (g' := q15.2) K.2.1 E (kS K) h16) rfl rfl rfl (oX9_lays h16) ⟨Nat.le_of_ble_eq_true rfl, Nat.le_of_ble_eq_true rfl⟩ (Nat.le_of_ble_eq_true rfl) dX9_readsA_105 ⟨Nat.zero_le _, Nat.zero_le _⟩ rfl ?_
    refine V.iconst (pc := 108) C dX9_readsA_108 (v := (1 : Int32)) (by decide) ?_
    obtain ⟨f1, f2⟩ := fin2 hf
    clear hf
    subst f1
    subst f2
    exact V.zret (pc := 109) C rfl rfl dX9_readsA_109
  replace hf := ite_t c10 hf
  refine V.iconst (pc := 92) C dX9_readsA_92 (v := (0 : Int32)) (by decide) ?_
  obtain ⟨f1, f2⟩ := fin2 hf
  clear hf
  subst f1
  subst f2
  exact V.zret (pc := 93) C rfl rfl dX9_readsA_93
def fX9_readsA (g : PH) (a0 : Nat) (a1 : Int32) : Option (Int32 × PH) :=
  okb (isO g a0 9) ((fX9_readsDigit g a0 (0 : Int32)).bind fun q1 =>
  (if q1.1 = 0 then (some ((0 : Int32), q1.2)) else
  ((getI q1.2 a0 9 7).bind fun x4 =>
  ((getI q1.2 a0 9 4).bind fun x6 =>
  ((fX9_lays q1.2 a0 x4 a1 (1 : Int32) x6).bind fun q8 =>
  ((fX9_takes q8.2 a0 (119 : Int32)).bind fun q10 =>
  (if q10.1 = 0 then ((fX9_needs q10.2 a0 (114 : Int32)).bind fun q13 =>
  (if q13.1 = 0 then (some ((0 : Int32), q13.2)) else
  (fX9_readsA_64 q13.2 a0 a1 (2 : Int32)))) else
  ((fX9_readsDigit q10.2 a0 (0 : Int32)).bind fun q16 =>
  (if q16.1 = 0 then (some ((0 : Int32), q16.2)) else
  ((getI q16.2 a0 9 4).bind fun x19 =>
  (fX9_readsA_64 q16.2 a0 a1 x19)))))))))))
theorem oX9_readsA {g : PH} {a0 : Nat} {a1 : Int32} {q : (Int32 × PH)} (h : fX9_readsA g a0 a1 = some q) : isO g a0 9 = true := by unfold fX9_readsA at h; exact (okb_some h).1
theorem hyX9_readsA : hMet yX9_readsA RX9 cX9_readsA 3 (some .boolean) 1 := ⟨wd_1243, wd_1242, ws_62, wd_7, rfl, by decide +kernel, by decide +kernel, by decide +kernel⟩
set_option maxHeartbeats 4000000 in
set_option maxRecDepth 100000 in
theorem mX9_readsA (l : Launch) (E : HE) (sz : Nat) {g g' : PH} {a0 : Nat} {a1 : Int32} {r : Int32} (hf : fX9_readsA g a0 a1 = some (r, g')) : hM l E yX9_readsA cX9_readsA 3 (some .boolean) 4 83 0 0 sz g [.ref a0, .int a1] (some (.int r)) g' := by
  refine hM.of (by decide) (Nat.le_of_ble_eq_true rfl) (fun K hl C hin hsz => ?_)
  subst hl
  subst hsz
  have C : VC K E 3 cX9_readsA RX9 (some .boolean) := C
  unfold fX9_readsA at hf
  replace hf := okb_some hf
  obtain ⟨ho, hf⟩ := hf
  refine V.start (L' := [(0, .ref a0), (1, .int a1)]) rfl ?_
  refine V.aload_n (pc := 0) C dX9_readsA_0 0 rfl ?_
  refine V.iconst (pc := 1) C dX9_readsA_1 (v := (0 : Int32)) (by decide) ?_
  replace hf := ob_some hf
  obtain ⟨q1, h2, hf⟩ := hf
  refine V.callV0i (pc := 2) C hyX9_readsDigit wd_1228 (mX9_readsDigit (r := q1.1) (g' := q1.2) K.2.1 E (kS K) h2) rfl rfl rfl (oX9_readsDigit h2) ⟨Nat.le_of_ble_eq_true rfl, Nat.le_of_ble_eq_true rfl⟩ (Nat.le_of_ble_eq_true rfl) dX9_readsA_2 ⟨Nat.zero_le _, Nat.zero_le _⟩ rfl ?_
  refine V.if_ne (pc := 5) (t := 10) C dX9_readsA_5 (by decide) (fun c3 => ?_) (fun c3 => ?_)
  · replace hf := ite_f c3 hf
    refine V.aload_n (pc := 10) C dX9_readsA_10 0 rfl ?_
    refine V.aload_n (pc := 11) C dX9_readsA_11 0 rfl ?_
    replace hf := ob_some hf
    obtain ⟨x4, h5, hf⟩ := hf
    refine V.getI (pc := 12) C kX9 (k := 7) (by decide) wd_1057 h5 dX9_readsA_12 ?_
    refine V.iload_n (pc := 15) C dX9_readsA_15 1 rfl ?_
    refine V.iconst (pc := 16) C dX9_readsA_16 (v := (1 : Int32)) (by decide) ?_
    refine V.aload_n (pc := 17) C dX9_readsA_17 0 rfl ?_
    replace hf := ob_some hf
    obtain ⟨x6, h7, hf⟩ := hf
    refine V.getI (pc := 18) C kX9 (k := 4) (by decide) wd_1054 h7 dX9_readsA_18 ?_
    replace hf := ob_some hf
    obtain ⟨q8, h9, hf⟩ := hf
    refine V.callV0v (pc := 21) C hyX9_lays wd_1216 (mX9_lays (r := q8.1) (g' := q8.2) K.2.1 E (kS K) h9) rfl rfl rfl (oX9_lays h9) ⟨Nat.le_of_ble_eq_true rfl, Nat.le_of_ble_eq_true rfl⟩ (Nat.le_of_ble_eq_true rfl) dX9_readsA_21 ⟨Nat.zero_le _, Nat.zero_le _⟩ rfl ?_
    refine V.iconst (pc := 24) C dX9_readsA_24 (v := (2 : Int32)) (by decide) ?_
    refine V.istore_n (pc := 25) (L' := [(2, .int (2 : Int32)), (0, .ref a0), (1, .int a1)]) C dX9_readsA_25 (by decide) rfl ?_
    refine V.aload_n (pc := 26) C dX9_readsA_26 1 rfl ?_
    refine V.bipush (pc := 27) C dX9_readsA_27 (v := (119 : Int32)) (by decide) ?_
    replace hf := ob_some hf
    obtain ⟨q10, h11, hf⟩ := hf
    refine V.callV0i (pc := 29) C hyX9_takes wd_1232 (mX9_takes (r := q10.1) (g' := q10.2) K.2.1 E (kS K) h11) rfl rfl rfl (oX9_takes h11) ⟨Nat.le_of_ble_eq_true rfl, Nat.le_of_ble_eq_true rfl⟩ (Nat.le_of_ble_eq_true rfl) dX9_readsA_29 ⟨Nat.zero_le _, Nat.zero_le _⟩ rfl ?_
    refine V.if_eq (pc := 32) (t := 53) C dX9_readsA_32 (by decide) (fun c12 => ?_) (fun c12 => ?_)
    · replace hf := ite_t c12 hf
      refine V.aload_n (pc := 53) C dX9_readsA_53 1 rfl ?_
      refine V.bipush (pc := 54) C dX9_readsA_54 (v := (114 : Int32)) (by decide) ?_
      replace hf := ob_some hf
      obtain ⟨q13, h14, hf⟩ := hf
      refine V.callV0i (pc := 56) C hyX9_needs wd_1236 (mX9_needs (r := q13.1) (g' := q13.2) K.2.1 E (kS K) h14) rfl rfl rfl (oX9_needs h14) ⟨Nat.le_of_ble_eq_true rfl, Nat.le_of_ble_eq_true rfl⟩ (Nat.le_of_ble_eq_true rfl) dX9_readsA_56 ⟨Nat.zero_le _, Nat.zero_le _⟩ rfl ?_
      refine V.if_ne (pc := 59) (t := 64) C dX9_readsA_59 (by decide) (fun c15 => ?_) (fun c15 => ?_)
      · replace hf := ite_f c15 hf
        refine V.sub (L' := [(0, .ref a0), (1, .int a1), (2, .int (2 : Int32))]) [1, 2, 0] rfl ?_
        exact bX9_readsA_64 C  hf
      replace hf := ite_t c15 hf
      refine V.iconst (pc := 62) C dX9_readsA_62 (v := (0 : Int32)) (by decide) ?_
      obtain ⟨f1, f2⟩ := fin2 hf
      clear hf
      subst f1
      subst f2
      exact V.zret (pc := 63) C rfl rfl dX9_readsA_63
    replace hf := ite_f c12 hf
    refine V.aload_n (pc := 35) C dX9_readsA_35 1 rfl ?_
    refine V.iconst (pc := 36) C dX9_readsA_36 (v := (0 : Int32)) (by decide) ?_
    replace hf := ob_some hf
    obtain ⟨q16, h17, hf⟩ := hf
    refine V.callV0i (pc := 37) C hyX9_readsDigit wd_1228 (mX9_readsDigit (r := q16.1) (g' := q16.2) K.2.1 E (kS K) h17) rfl rfl rfl (oX9_readsDigit h17) ⟨Nat.le_of_ble_eq_true rfl, Nat.le_of_ble_eq_true rfl⟩ (Nat.le_of_ble_eq_true rfl) dX9_readsA_37 ⟨Nat.zero_le _, Nat.zero_le _⟩ rfl ?_
    refine V.if_ne (pc := 40) (t := 45) C dX9_readsA_40 (by decide) (fun c18 => ?_) (fun c18 => ?_)
    · replace hf := ite_f c18 hf
      refine V.aload_n (pc := 45) C dX9_readsA_45 1 rfl ?_
      replace hf := ob_some hf
      obtain ⟨x19, h20, hf⟩ := hf
      refine V.getI (pc := 46) C kX9 (k := 4) (by decide) wd_1054 h20 dX9_readsA_46 ?_
      refine V.istore_n (pc := 49) (L' := [(2, .int x19), (0, .ref a0), (1, .int a1)]) C dX9_readsA_49 (by decide) rfl ?_
      refine V.goto (pc := 50) (t := 64) C dX9_readsA_50 (by decide) ?_
      refine V.sub (L' := [(0, .ref a0), (1, .int a1), (2, .int x19)]) [1, 2, 0] rfl ?_
      exact bX9_readsA_64 C  hf
    replace hf := ite_t c18 hf
    refine V.iconst (pc := 43) C dX9_readsA_43 (v := (0 : Int32)) (by decide) ?_
    obtain ⟨f1, f2⟩ := fin2 hf
    clear hf
    subst f1
    subst f2
    exact V.zret (pc := 44) C rfl rfl dX9_readsA_44
  replace hf := ite_t c3 hf
  refine V.iconst (pc := 8) C dX9_readsA_8 (v := (0 : Int32)) (by decide) ?_
  obtain ⟨f1, f2⟩ := fin2 hf
  clear hf
  subst f1
  subst f2
  exact V.zret (pc := 9) C rfl rfl dX9_readsA_9
theorem dX9_readsRest_0 : decode cX9_readsRest 0 = .ok (.iload_n 1, 1) := by decide +kernel
theorem dX9_readsRest_1 : decode cX9_readsRest 1 = .ok (.lookupswitch 84 #[(97, 49), (109, 82), (115, 55), (118, 43)], 43) := by decide +kernel
theorem dX9_readsRest_44 : decode cX9_readsRest 44 = .ok (.aload_n 0, 1) := by decide +kernel
theorem dX9_readsRest_45 : decode cX9_readsRest 45 = .ok (.iload_n 2, 1) := by decide +kernel
theorem dX9_readsRest_46 : decode cX9_readsRest 46 = .ok (.invokevirtual 129, 3) := by decide +kernel
theorem dX9_readsRest_49 : decode cX9_readsRest 49 = .ok (.ireturn, 1) := by decide +kernel
theorem dX9_readsRest_50 : decode cX9_readsRest 50 = .ok (.aload_n 0, 1) := by decide +kernel
theorem dX9_readsRest_51 : decode cX9_readsRest 51 = .ok (.iload_n 2, 1) := by decide +kernel
theorem dX9_readsRest_52 : decode cX9_readsRest 52 = .ok (.invokevirtual 132, 3) := by decide +kernel
theorem dX9_readsRest_55 : decode cX9_readsRest 55 = .ok (.ireturn, 1) := by decide +kernel
theorem dX9_readsRest_56 : decode cX9_readsRest 56 = .ok (.aload_n 0, 1) := by decide +kernel
theorem dX9_readsRest_57 : decode cX9_readsRest 57 = .ok (.iconst 0, 1) := by decide +kernel
theorem dX9_readsRest_58 : decode cX9_readsRest 58 = .ok (.invokevirtual 115, 3) := by decide +kernel
theorem dX9_readsRest_61 : decode cX9_readsRest 61 = .ok (.ifCond .ne 5, 3) := by decide +kernel
theorem dX9_readsRest_64 : decode cX9_readsRest 64 = .ok (.iconst 0, 1) := by decide +kernel
theorem dX9_readsRest_65 : decode cX9_readsRest 65 = .ok (.ireturn, 1) := by decide +kernel
theorem dX9_readsRest_66 : decode cX9_readsRest 66 = .ok (.aload_n 0, 1) := by decide +kernel
theorem dX9_readsRest_67 : decode cX9_readsRest 67 = .ok (.aload_n 0, 1) := by decide +kernel
theorem dX9_readsRest_68 : decode cX9_readsRest 68 = .ok (.getfield 119, 3) := by decide +kernel
theorem dX9_readsRest_71 : decode cX9_readsRest 71 = .ok (.iload_n 2, 1) := by decide +kernel
theorem dX9_readsRest_72 : decode cX9_readsRest 72 = .ok (.iconst 1, 1) := by decide +kernel
theorem dX9_readsRest_73 : decode cX9_readsRest 73 = .ok (.aload_n 0, 1) := by decide +kernel
theorem dX9_readsRest_74 : decode cX9_readsRest 74 = .ok (.getfield 112, 3) := by decide +kernel
theorem dX9_readsRest_77 : decode cX9_readsRest 77 = .ok (.invokevirtual 122, 3) := by decide +kernel
theorem dX9_readsRest_80 : decode cX9_readsRest 80 = .ok (.goto 5, 3) := by decide +kernel
theorem dX9_readsRest_83 : decode cX9_readsRest 83 = .ok (.iconst 1, 1) := by decide +kernel
theorem dX9_readsRest_84 : decode cX9_readsRest 84 = .ok (.ireturn, 1) := by decide +kernel
theorem dX9_readsRest_85 : decode cX9_readsRest 85 = .ok (.aload_n 0, 1) := by decide +kernel
theorem dX9_readsRest_86 : decode cX9_readsRest 86 = .ok (.bipush 58, 2) := by decide +kernel
theorem dX9_readsRest_88 : decode cX9_readsRest 88 = .ok (.invokevirtual 126, 3) := by decide +kernel
theorem dX9_readsRest_91 : decode cX9_readsRest 91 = .ok (.ifCond .eq 11, 3) := by decide +kernel
theorem dX9_readsRest_94 : decode cX9_readsRest 94 = .ok (.aload_n 0, 1) := by decide +kernel
theorem dX9_readsRest_95 : decode cX9_readsRest 95 = .ok (.iconst 0, 1) := by decide +kernel
theorem dX9_readsRest_96 : decode cX9_readsRest 96 = .ok (.invokevirtual 115, 3) := by decide +kernel
theorem dX9_readsRest_99 : decode cX9_readsRest 99 = .ok (.ifCond .ne 5, 3) := by decide +kernel
theorem dX9_readsRest_102 : decode cX9_readsRest 102 = .ok (.iconst 0, 1) := by decide +kernel
theorem dX9_readsRest_103 : decode cX9_readsRest 103 = .ok (.ireturn, 1) := by decide +kernel
theorem dX9_readsRest_104 : decode cX9_readsRest 104 = .ok (.aload_n 0, 1) := by decide +kernel
theorem dX9_readsRest_105 : decode cX9_readsRest 105 = .ok (.aload_n 0, 1) := by decide +kernel
theorem dX9_readsRest_106 : decode cX9_readsRest 106 = .ok (.getfield 119, 3) := by decide +kernel
theorem dX9_readsRest_109 : decode cX9_readsRest 109 = .ok (.iload_n 2, 1) := by decide +kernel
theorem dX9_readsRest_110 : decode cX9_readsRest 110 = .ok (.iconst 3, 1) := by decide +kernel
theorem dX9_readsRest_111 : decode cX9_readsRest 111 = .ok (.aload_n 0, 1) := by decide +kernel
theorem dX9_readsRest_112 : decode cX9_readsRest 112 = .ok (.getfield 112, 3) := by decide +kernel
theorem dX9_readsRest_115 : decode cX9_readsRest 115 = .ok (.invokevirtual 122, 3) := by decide +kernel
theorem dX9_readsRest_118 : decode cX9_readsRest 118 = .ok (.iconst 1, 1) := by decide +kernel
theorem dX9_readsRest_119 : decode cX9_readsRest 119 = .ok (.ireturn, 1) := by decide +kernel
def fX9_readsRest_85  (g : PH) (v0 : Nat) (v2 : Int32) : Option (Int32 × PH) :=
  (fX9_needs g v0 (58 : Int32)).bind fun q1 =>
  (if q1.1 = 0 then (some ((0 : Int32), q1.2)) else
  ((fX9_readsDigit q1.2 v0 (0 : Int32)).bind fun q4 =>
  (if q4.1 = 0 then (some ((0 : Int32), q4.2)) else
  ((getI q4.2 v0 9 7).bind fun x7 =>
  ((getI q4.2 v0 9 4).bind fun x9 =>
  ((fX9_lays q4.2 v0 x7 v2 (3 : Int32) x9).bind fun q11 =>
  (some ((1 : Int32), q11.2))))))))
set_option maxHeartbeats 4000000 in
set_option maxRecDepth 100000 in
theorem bX9_readsRest_85 {K : HK} {E : HE} {r : Int32} {g' : PH}  (C : VC K E 3 cX9_readsRest RX9 (some .boolean))  {g : PH} {v0 : Nat} {v2 : Int32} (hf : fX9_readsRest_85  g v0 v2 = some (r, g')) : V K E (hRm 5 105 0 0) 3 (hZ K E (some (.int r)) g' 0 0) 0 0 (kS K) g 85 [(0, .ref v0), (2, .int v2)] [] := by
  unfold fX9_readsRest_85 at hf
  refine V.aload_n (pc := 85) C dX9_readsRest_85 0 rfl ?_
  refine V.bipush (pc := 86) C dX9_readsRest_86 (v := (58 : Int32)) (by decide) ?_
  replace hf := ob_some hf
  obtain ⟨q1, h2, hf⟩ := hf
  refine V.callV0i (pc := 88) C hyX9_needs wd_1236 (mX9_needs (r := q1.1) (g' := q1.2) K.2.1 E (kS K) h2) rfl rfl rfl (oX9_needs h2) ⟨Nat.le_of_ble_eq_true rfl, Nat.le_of_ble_eq_true rfl⟩ (Nat.le_of_ble_eq_true rfl) dX9_readsRest_88 ⟨Nat.zero_le _, Nat.zero_le _⟩ rfl ?_
  refine V.if_eq (pc := 91) (t := 102) C dX9_readsRest_91 (by decide) (fun c3 => ?_) (fun c3 => ?_)
  · replace hf := ite_t c3 hf
    refine V.iconst (pc := 102) C dX9_readsRest_102 (v := (0 : Int32)) (by decide) ?_
    obtain ⟨f1, f2⟩ := fin2 hf
    clear hf
    subst f1
    subst f2
    exact V.zret (pc := 103) C rfl rfl dX9_readsRest_103
  replace hf := ite_f c3 hf
  refine V.aload_n (pc := 94) C dX9_readsRest_94 0 rfl ?_
  refine V.iconst (pc := 95) C dX9_readsRest_95 (v := (0 : Int32)) (by decide) ?_
  replace hf := ob_some hf
  obtain ⟨q4, h5, hf⟩ := hf
  refine V.callV0i (pc := 96) C hyX9_readsDigit wd_1228 (mX9_readsDigit (r := q4.1) (g' := q4.2) K.2.1 E (kS K) h5) rfl rfl rfl (oX9_readsDigit h5) ⟨Nat.le_of_ble_eq_true rfl, Nat.le_of_ble_eq_true rfl⟩ (Nat.le_of_ble_eq_true rfl) dX9_readsRest_96 ⟨Nat.zero_le _, Nat.zero_le _⟩ rfl ?_
  refine V.if_ne (pc := 99) (t := 104) C dX9_readsRest_99 (by decide) (fun c6 => ?_) (fun c6 => ?_)
  · replace hf := ite_f c6 hf
    refine V.aload_n (pc := 104) C dX9_readsRest_104 0 rfl ?_
    refine V.aload_n (pc := 105) C dX9_readsRest_105 0 rfl ?_
    replace hf := ob_some hf
    obtain ⟨x7, h8, hf⟩ := hf
    refine V.getI (pc := 106) C kX9 (k := 7) (by decide) wd_1057 h8 dX9_readsRest_106 ?_
    refine V.iload_n (pc := 109) C dX9_readsRest_109 1 rfl ?_
    refine V.iconst (pc := 110) C dX9_readsRest_110 (v := (3 : Int32)) (by decide) ?_
    refine V.aload_n (pc := 111) C dX9_readsRest_111 0 rfl ?_
    replace hf := ob_some hf
    obtain ⟨x9, h10, hf⟩ := hf
    refine V.getI (pc := 112) C kX9 (k := 4) (by decide) wd_1054 h10 dX9_readsRest_112 ?_
    replace hf := ob_some hf
    obtain ⟨q11, h12, hf⟩ := hf
    refine V.callV0v (pc := 115) C hyX9_lays wd_1216 (mX9_lays (r := q11.1) (g' := q11.2) K.2.1 E (kS K) h12) rfl rfl rfl (oX9_lays h12) ⟨Nat.le_of_ble_eq_true rfl, Nat.le_of_ble_eq_true rfl⟩ (Nat.le_of_ble_eq_true rfl) dX9_readsRest_115 ⟨Nat.zero_le _, Nat.zero_le _⟩ rfl ?_
    refine V.iconst (pc := 118) C dX9_readsRest_118 (v := (1 : Int32)) (by decide) ?_
    obtain ⟨f1, f2⟩ := fin2 hf
    clear hf
    subst f1
    subst f2
    exact V.zret (pc := 119) C rfl rfl dX9_readsRest_119
  replace hf := ite_t c6 hf
  refine V.iconst (pc := 102) C dX9_readsRest_102 (v := (0 : Int32)) (by decide) ?_
  obtain ⟨f1, f2⟩ := fin2 hf
  clear hf
  subst f1
  subst f2
  exact V.zret (pc := 103) C rfl rfl dX9_readsRest_103
def fX9_readsRest (g : PH) (a0 : Nat) (a1 : Int32) (a2 : Int32) : Option (Int32 × PH) :=
  okb (isO g a0 9) (if a1 = 97 then ((fX9_readsA g a0 a2).bind fun q2 =>
  (okb (vp_nar .boolean q2.1 == q2.1) (some (q2.1, q2.2)))) else
  (if a1 = 109 then (some ((1 : Int32), g)) else
  (if a1 = 115 then ((fX9_readsDigit g a0 (0 : Int32)).bind fun q7 =>
  (if q7.1 = 0 then (some ((0 : Int32), q7.2)) else
  ((getI q7.2 a0 9 7).bind fun x10 =>
  ((getI q7.2 a0 9 4).bind fun x12 =>
  ((fX9_lays q7.2 a0 x10 a2 (1 : Int32) x12).bind fun q14 =>
  (fX9_readsRest_85 q14.2 a0 a2)))))) else
  (if a1 = 118 then ((fX9_readsV g a0 a2).bind fun q17 =>
  (okb (vp_nar .boolean q17.1 == q17.1) (some (q17.1, q17.2)))) else
  (fX9_readsRest_85 g a0 a2)))))
theorem oX9_readsRest {g : PH} {a0 : Nat} {a1 : Int32} {a2 : Int32} {q : (Int32 × PH)} (h : fX9_readsRest g a0 a1 a2 = some q) : isO g a0 9 = true := by unfold fX9_readsRest at h; exact (okb_some h).1
theorem hyX9_readsRest : hMet yX9_readsRest RX9 cX9_readsRest 3 (some .boolean) 2 := ⟨wd_1223, wd_1222, ws_57, wd_7, rfl, by decide +kernel, by decide +kernel, by decide +kernel⟩
set_option maxHeartbeats 4000000 in
set_option maxRecDepth 100000 in
theorem mX9_readsRest (l : Launch) (E : HE) (sz : Nat) {g g' : PH} {a0 : Nat} {a1 : Int32} {a2 : Int32} {r : Int32} (hf : fX9_readsRest g a0 a1 a2 = some (r, g')) : hM l E yX9_readsRest cX9_readsRest 3 (some .boolean) 5 105 0 0 sz g [.ref a0, .int a1, .int a2] (some (.int r)) g' := by
  refine hM.of (by decide) (Nat.le_of_ble_eq_true rfl) (fun K hl C hin hsz => ?_)
  subst hl
  subst hsz
  have C : VC K E 3 cX9_readsRest RX9 (some .boolean) := C
  unfold fX9_readsRest at hf
  replace hf := okb_some hf
  obtain ⟨ho, hf⟩ := hf
  refine V.start (L' := [(0, .ref a0), (1, .int a1), (2, .int a2)]) rfl ?_
  refine V.iload_n (pc := 0) C dX9_readsRest_0 1 rfl ?_
  by_cases c1 : a1 = 97
  · replace hf := ite_t c1 hf
    refine V.lsw (pc := 1) (off := 49) (t := 50) C dX9_readsRest_1 (by decide) (by rw [c1]; decide) (by decide) ?_
    refine V.aload_n (pc := 50) C dX9_readsRest_50 0 rfl ?_
    refine V.iload_n (pc := 51) C dX9_readsRest_51 2 rfl ?_
    replace hf := ob_some hf
    obtain ⟨q2, h3, hf⟩ := hf
    refine V.callV0i (pc := 52) C hyX9_readsA wd_1240 (mX9_readsA (r := q2.1) (g' := q2.2) K.2.1 E (kS K) h3) rfl rfl rfl (oX9_readsA h3) ⟨Nat.le_of_ble_eq_true rfl, Nat.le_of_ble_eq_true rfl⟩ (Nat.le_of_ble_eq_true rfl) dX9_readsRest_52 ⟨Nat.zero_le _, Nat.zero_le _⟩ rfl ?_
    replace hf := okb_some hf
    obtain ⟨h4, hf⟩ := hf
    obtain ⟨f1, f2⟩ := fin2 hf
    clear hf
    subst f1
    subst f2
    exact V.zret (pc := 55) C (nar_z (eq_of_beq h4)) rfl dX9_readsRest_55
  replace hf := ite_f c1 hf
  by_cases c5 : a1 = 109
  · replace hf := ite_t c5 hf
    refine V.lsw (pc := 1) (off := 82) (t := 83) C dX9_readsRest_1 (by decide) (by rw [c5]; decide) (by decide) ?_
    refine V.iconst (pc := 83) C dX9_readsRest_83 (v := (1 : Int32)) (by decide) ?_
    obtain ⟨f1, f2⟩ := fin2 hf
    clear hf
    subst f1
    subst f2
    exact V.zret (pc := 84) C rfl rfl dX9_readsRest_84
  replace hf := ite_f c5 hf
  by_cases c6 : a1 = 115
  · replace hf := ite_t c6 hf
    refine V.lsw (pc := 1) (off := 55) (t := 56) C dX9_readsRest_1 (by decide) (by rw [c6]; decide) (by decide) ?_
    refine V.aload_n (pc := 56) C dX9_readsRest_56 0 rfl ?_
    refine V.iconst (pc := 57) C dX9_readsRest_57 (v := (0 : Int32)) (by decide) ?_
    replace hf := ob_some hf
    obtain ⟨q7, h8, hf⟩ := hf
    refine V.callV0i (pc := 58) C hyX9_readsDigit wd_1228 (mX9_readsDigit (r := q7.1) (g' := q7.2) K.2.1 E (kS K) h8) rfl rfl rfl (oX9_readsDigit h8) ⟨Nat.le_of_ble_eq_true rfl, Nat.le_of_ble_eq_true rfl⟩ (Nat.le_of_ble_eq_true rfl) dX9_readsRest_58 ⟨Nat.zero_le _, Nat.zero_le _⟩ rfl ?_
    refine V.if_ne (pc := 61) (t := 66) C dX9_readsRest_61 (by decide) (fun c9 => ?_) (fun c9 => ?_)
    · replace hf := ite_f c9 hf
      refine V.aload_n (pc := 66) C dX9_readsRest_66 0 rfl ?_
      refine V.aload_n (pc := 67) C dX9_readsRest_67 0 rfl ?_
      replace hf := ob_some hf
      obtain ⟨x10, h11, hf⟩ := hf
      refine V.getI (pc := 68) C kX9 (k := 7) (by decide) wd_1057 h11 dX9_readsRest_68 ?_
      refine V.iload_n (pc := 71) C dX9_readsRest_71 2 rfl ?_
      refine V.iconst (pc := 72) C dX9_readsRest_72 (v := (1 : Int32)) (by decide) ?_
      refine V.aload_n (pc := 73) C dX9_readsRest_73 0 rfl ?_
      replace hf := ob_some hf
      obtain ⟨x12, h13, hf⟩ := hf
      refine V.getI (pc := 74) C kX9 (k := 4) (by decide) wd_1054 h13 dX9_readsRest_74 ?_
      replace hf := ob_some hf
      obtain ⟨q14, h15, hf⟩ := hf
      refine V.callV0v (pc := 77) C hyX9_lays wd_1216 (mX9_lays (r := q14.1) (g' := q14.2) K.2.1 E (kS K) h15) rfl rfl rfl (oX9_lays h15) ⟨Nat.le_of_ble_eq_true rfl, Nat.le_of_ble_eq_true rfl⟩ (Nat.le_of_ble_eq_true rfl) dX9_readsRest_77 ⟨Nat.zero_le _, Nat.zero_le _⟩ rfl ?_
      refine V.goto (pc := 80) (t := 85) C dX9_readsRest_80 (by decide) ?_
      refine V.sub (L' := [(0, .ref a0), (2, .int a2)]) [0, 2] rfl ?_
      exact bX9_readsRest_85 C  hf
    replace hf := ite_t c9 hf
    refine V.iconst (pc := 64) C dX9_readsRest_64 (v := (0 : Int32)) (by decide) ?_
    obtain ⟨f1, f2⟩ := fin2 hf
    clear hf
    subst f1
    subst f2
    exact V.zret (pc := 65) C rfl rfl dX9_readsRest_65
  replace hf := ite_f c6 hf
  by_cases c16 : a1 = 118
  · replace hf := ite_t c16 hf
    refine V.lsw (pc := 1) (off := 43) (t := 44) C dX9_readsRest_1 (by decide) (by rw [c16]; decide) (by decide) ?_
    refine V.aload_n (pc := 44) C dX9_readsRest_44 0 rfl ?_
    refine V.iload_n (pc := 45) C dX9_readsRest_45 2 rfl ?_
    replace hf := ob_some hf
    obtain ⟨q17, h18, hf⟩ := hf
    refine V.callV0i (pc := 46) C hyX9_readsV wd_1224 (mX9_readsV (r := q17.1) (g' := q17.2) K.2.1 E (kS K) h18) rfl rfl rfl (oX9_readsV h18) ⟨Nat.le_of_ble_eq_true rfl, Nat.le_of_ble_eq_true rfl⟩ (Nat.le_of_ble_eq_true rfl) dX9_readsRest_46 ⟨Nat.zero_le _, Nat.zero_le _⟩ rfl ?_
    replace hf := okb_some hf
    obtain ⟨h19, hf⟩ := hf
    obtain ⟨f1, f2⟩ := fin2 hf
    clear hf
    subst f1
    subst f2
    exact V.zret (pc := 49) C (nar_z (eq_of_beq h19)) rfl dX9_readsRest_49
  replace hf := ite_f c16 hf
  refine V.lsw (pc := 1) (off := 84) (t := 85) C dX9_readsRest_1 (by decide) (by show Op.lookupswitch.offset [(97, 49), (109, 82), (115, 55), (118, 43)] _ _ = _; rw [lv_osw c1 (by decide), lv_osw c5 (by decide), lv_osw c6 (by decide), lv_osw c16 (by decide)]; rfl) (by decide) ?_
  refine V.sub (L' := [(0, .ref a0), (2, .int a2)]) [0, 2] rfl ?_
  exact bX9_readsRest_85 C  hf
theorem dX9_isAlone_0 : decode cX9_isAlone 0 = .ok (.iload_n 0, 1) := by decide +kernel
theorem dX9_isAlone_1 : decode cX9_isAlone 1 = .ok (.bipush 110, 2) := by decide +kernel
theorem dX9_isAlone_3 : decode cX9_isAlone 3 = .ok (.if_icmp .eq 15, 3) := by decide +kernel
theorem dX9_isAlone_6 : decode cX9_isAlone 6 = .ok (.iload_n 0, 1) := by decide +kernel
theorem dX9_isAlone_7 : decode cX9_isAlone 7 = .ok (.bipush 109, 2) := by decide +kernel
theorem dX9_isAlone_9 : decode cX9_isAlone 9 = .ok (.if_icmp .eq 9, 3) := by decide +kernel
theorem dX9_isAlone_12 : decode cX9_isAlone 12 = .ok (.iload_n 0, 1) := by decide +kernel
theorem dX9_isAlone_13 : decode cX9_isAlone 13 = .ok (.bipush 98, 2) := by decide +kernel
theorem dX9_isAlone_15 : decode cX9_isAlone 15 = .ok (.if_icmp .ne 7, 3) := by decide +kernel
theorem dX9_isAlone_18 : decode cX9_isAlone 18 = .ok (.iconst 1, 1) := by decide +kernel
theorem dX9_isAlone_19 : decode cX9_isAlone 19 = .ok (.goto 4, 3) := by decide +kernel
theorem dX9_isAlone_22 : decode cX9_isAlone 22 = .ok (.iconst 0, 1) := by decide +kernel
theorem dX9_isAlone_23 : decode cX9_isAlone 23 = .ok (.ireturn, 1) := by decide +kernel
def fX9_isAlone (g : PH) (a0 : Int32) : Option (Int32 × PH) :=
  if a0 = (110 : Int32) then (some ((1 : Int32), g)) else
  (if a0 = (109 : Int32) then (some ((1 : Int32), g)) else
  (if a0 = (98 : Int32) then (some ((1 : Int32), g)) else
  (some ((0 : Int32), g))))
theorem hyX9_isAlone : hMetS yX9_isAlone cX9_isAlone 1 (some .boolean) 1 := ⟨wd_1207, wd_1206, wd_7, by decide +kernel, by decide +kernel, by decide +kernel⟩
set_option maxHeartbeats 4000000 in
set_option maxRecDepth 100000 in
theorem mX9_isAlone (l : Launch) (E : HE) (sz : Nat) {g g' : PH} {a0 : Int32} {r : Int32} (hf : fX9_isAlone g a0 = some (r, g')) : hM l E yX9_isAlone cX9_isAlone 1 (some .boolean) 0 0 0 0 sz g [.int a0] (some (.int r)) g' := by
  refine hM.of (by decide) (Nat.le_of_ble_eq_true rfl) (fun K hl C hin hsz => ?_)
  subst hl
  subst hsz
  have C : VC K E 1 cX9_isAlone RX9 (some .boolean) := C
  unfold fX9_isAlone at hf
  refine V.start (L' := [(0, .int a0)]) rfl ?_
  refine V.iload_n (pc := 0) C dX9_isAlone_0 0 rfl ?_
  refine V.bipush (pc := 1) C dX9_isAlone_1 (v := (110 : Int32)) (by decide) ?_
  refine V.icmp_eq (pc := 3) (t := 18) C dX9_isAlone_3 (by decide) (fun c1 => ?_) (fun c1 => ?_)
  · replace hf := ite_t c1 hf
    refine V.iconst (pc := 18) C dX9_isAlone_18 (v := (1 : Int32)) (by decide) ?_
    refine V.goto (pc := 19) (t := 23) C dX9_isAlone_19 (by decide) ?_
    obtain ⟨f1, f2⟩ := fin2 hf
    clear hf
    subst f1
    subst f2
    exact V.zret (pc := 23) C rfl rfl dX9_isAlone_23
  replace hf := ite_f c1 hf
  refine V.iload_n (pc := 6) C dX9_isAlone_6 0 rfl ?_
  refine V.bipush (pc := 7) C dX9_isAlone_7 (v := (109 : Int32)) (by decide) ?_
  refine V.icmp_eq (pc := 9) (t := 18) C dX9_isAlone_9 (by decide) (fun c2 => ?_) (fun c2 => ?_)
  · replace hf := ite_t c2 hf
    refine V.iconst (pc := 18) C dX9_isAlone_18 (v := (1 : Int32)) (by decide) ?_
    refine V.goto (pc := 19) (t := 23) C dX9_isAlone_19 (by decide) ?_
    obtain ⟨f1, f2⟩ := fin2 hf
    clear hf
    subst f1
    subst f2
    exact V.zret (pc := 23) C rfl rfl dX9_isAlone_23
  replace hf := ite_f c2 hf
  refine V.iload_n (pc := 12) C dX9_isAlone_12 0 rfl ?_
  refine V.bipush (pc := 13) C dX9_isAlone_13 (v := (98 : Int32)) (by decide) ?_
  refine V.icmp_ne (pc := 15) (t := 22) C dX9_isAlone_15 (by decide) (fun c3 => ?_) (fun c3 => ?_)
  · replace hf := ite_f c3 hf
    refine V.iconst (pc := 22) C dX9_isAlone_22 (v := (0 : Int32)) (by decide) ?_
    obtain ⟨f1, f2⟩ := fin2 hf
    clear hf
    subst f1
    subst f2
    exact V.zret (pc := 23) C rfl rfl dX9_isAlone_23
  replace hf := ite_t c3 hf
  refine V.iconst (pc := 18) C dX9_isAlone_18 (v := (1 : Int32)) (by decide) ?_
  refine V.goto (pc := 19) (t := 23) C dX9_isAlone_19 (by decide) ?_
  obtain ⟨f1, f2⟩ := fin2 hf
  clear hf
  subst f1
  subst f2
  exact V.zret (pc := 23) C rfl rfl dX9_isAlone_23
theorem dX9_readsRule_0 : decode cX9_readsRule 0 = .ok (.aload_n 0, 1) := by decide +kernel
theorem dX9_readsRule_1 : decode cX9_readsRule 1 = .ok (.invokevirtual 100, 3) := by decide +kernel
theorem dX9_readsRule_4 : decode cX9_readsRule 4 = .ok (.istore_n 2, 1) := by decide +kernel
theorem dX9_readsRule_5 : decode cX9_readsRule 5 = .ok (.iload_n 2, 1) := by decide +kernel
theorem dX9_readsRule_6 : decode cX9_readsRule 6 = .ok (.bipush 118, 2) := by decide +kernel
theorem dX9_readsRule_8 : decode cX9_readsRule 8 = .ok (.if_icmp .eq 28, 3) := by decide +kernel
theorem dX9_readsRule_11 : decode cX9_readsRule 11 = .ok (.iload_n 2, 1) := by decide +kernel
theorem dX9_readsRule_12 : decode cX9_readsRule 12 = .ok (.bipush 97, 2) := by decide +kernel
theorem dX9_readsRule_14 : decode cX9_readsRule 14 = .ok (.if_icmp .eq 22, 3) := by decide +kernel
theorem dX9_readsRule_17 : decode cX9_readsRule 17 = .ok (.iload_n 2, 1) := by decide +kernel
theorem dX9_readsRule_18 : decode cX9_readsRule 18 = .ok (.bipush 115, 2) := by decide +kernel
theorem dX9_readsRule_20 : decode cX9_readsRule 20 = .ok (.if_icmp .eq 16, 3) := by decide +kernel
theorem dX9_readsRule_23 : decode cX9_readsRule 23 = .ok (.iload_n 2, 1) := by decide +kernel
theorem dX9_readsRule_24 : decode cX9_readsRule 24 = .ok (.bipush 107, 2) := by decide +kernel
theorem dX9_readsRule_26 : decode cX9_readsRule 26 = .ok (.if_icmp .eq 10, 3) := by decide +kernel
theorem dX9_readsRule_29 : decode cX9_readsRule 29 = .ok (.iload_n 2, 1) := by decide +kernel
theorem dX9_readsRule_30 : decode cX9_readsRule 30 = .ok (.invokestatic 135, 3) := by decide +kernel
theorem dX9_readsRule_33 : decode cX9_readsRule 33 = .ok (.ifCond .eq 7, 3) := by decide +kernel
theorem dX9_readsRule_36 : decode cX9_readsRule 36 = .ok (.iconst 1, 1) := by decide +kernel
theorem dX9_readsRule_37 : decode cX9_readsRule 37 = .ok (.goto 4, 3) := by decide +kernel
theorem dX9_readsRule_40 : decode cX9_readsRule 40 = .ok (.iconst 0, 1) := by decide +kernel
theorem dX9_readsRule_41 : decode cX9_readsRule 41 = .ok (.istore_n 3, 1) := by decide +kernel
theorem dX9_readsRule_42 : decode cX9_readsRule 42 = .ok (.iload_n 3, 1) := by decide +kernel
theorem dX9_readsRule_43 : decode cX9_readsRule 43 = .ok (.ifCond .ne 13, 3) := by decide +kernel
theorem dX9_readsRule_46 : decode cX9_readsRule 46 = .ok (.aload_n 0, 1) := by decide +kernel
theorem dX9_readsRule_47 : decode cX9_readsRule 47 = .ok (.iconst 1, 1) := by decide +kernel
theorem dX9_readsRule_48 : decode cX9_readsRule 48 = .ok (.aload_n 0, 1) := by decide +kernel
theorem dX9_readsRule_49 : decode cX9_readsRule 49 = .ok (.getfield 93, 3) := by decide +kernel
theorem dX9_readsRule_52 : decode cX9_readsRule 52 = .ok (.invokevirtual 108, 3) := by decide +kernel
theorem dX9_readsRule_55 : decode cX9_readsRule 55 = .ok (.ireturn, 1) := by decide +kernel
theorem dX9_readsRule_56 : decode cX9_readsRule 56 = .ok (.iload_n 1, 1) := by decide +kernel
theorem dX9_readsRule_57 : decode cX9_readsRule 57 = .ok (.iconst 4, 1) := by decide +kernel
theorem dX9_readsRule_58 : decode cX9_readsRule 58 = .ok (.if_icmp .ne 13, 3) := by decide +kernel
theorem dX9_readsRule_61 : decode cX9_readsRule 61 = .ok (.aload_n 0, 1) := by decide +kernel
theorem dX9_readsRule_62 : decode cX9_readsRule 62 = .ok (.iconst 2, 1) := by decide +kernel
theorem dX9_readsRule_63 : decode cX9_readsRule 63 = .ok (.aload_n 0, 1) := by decide +kernel
theorem dX9_readsRule_64 : decode cX9_readsRule 64 = .ok (.getfield 93, 3) := by decide +kernel
theorem dX9_readsRule_67 : decode cX9_readsRule 67 = .ok (.invokevirtual 108, 3) := by decide +kernel
theorem dX9_readsRule_70 : decode cX9_readsRule 70 = .ok (.ireturn, 1) := by decide +kernel
theorem dX9_readsRule_71 : decode cX9_readsRule 71 = .ok (.iload_n 1, 1) := by decide +kernel
theorem dX9_readsRule_72 : decode cX9_readsRule 72 = .ok (.ifCond .le 36, 3) := by decide +kernel
theorem dX9_readsRule_75 : decode cX9_readsRule 75 = .ok (.iload_n 2, 1) := by decide +kernel
theorem dX9_readsRule_76 : decode cX9_readsRule 76 = .ok (.invokestatic 135, 3) := by decide +kernel
theorem dX9_readsRule_79 : decode cX9_readsRule 79 = .ok (.ifCond .ne 19, 3) := by decide +kernel
theorem dX9_readsRule_82 : decode cX9_readsRule 82 = .ok (.aload_n 0, 1) := by decide +kernel
theorem dX9_readsRule_83 : decode cX9_readsRule 83 = .ok (.aload_n 0, 1) := by decide +kernel
theorem dX9_readsRule_84 : decode cX9_readsRule 84 = .ok (.getfield 119, 3) := by decide +kernel
theorem dX9_readsRule_87 : decode cX9_readsRule 87 = .ok (.iconst 0, 1) := by decide +kernel
theorem dX9_readsRule_88 : decode cX9_readsRule 88 = .ok (.iconst 0, 1) := by decide +kernel
theorem dX9_readsRule_89 : decode cX9_readsRule 89 = .ok (.invokevirtual 138, 3) := by decide +kernel
theorem dX9_readsRule_92 : decode cX9_readsRule 92 = .ok (.invokestatic 135, 3) := by decide +kernel
theorem dX9_readsRule_95 : decode cX9_readsRule 95 = .ok (.ifCond .eq 13, 3) := by decide +kernel
theorem dX9_readsRule_98 : decode cX9_readsRule 98 = .ok (.aload_n 0, 1) := by decide +kernel
theorem dX9_readsRule_99 : decode cX9_readsRule 99 = .ok (.iconst 3, 1) := by decide +kernel
theorem dX9_readsRule_100 : decode cX9_readsRule 100 = .ok (.aload_n 0, 1) := by decide +kernel
theorem dX9_readsRule_101 : decode cX9_readsRule 101 = .ok (.getfield 93, 3) := by decide +kernel
theorem dX9_readsRule_104 : decode cX9_readsRule 104 = .ok (.invokevirtual 108, 3) := by decide +kernel
theorem dX9_readsRule_107 : decode cX9_readsRule 107 = .ok (.ireturn, 1) := by decide +kernel
theorem dX9_readsRule_108 : decode cX9_readsRule 108 = .ok (.aload_n 0, 1) := by decide +kernel
theorem dX9_readsRule_109 : decode cX9_readsRule 109 = .ok (.dup, 1) := by decide +kernel
theorem dX9_readsRule_110 : decode cX9_readsRule 110 = .ok (.getfield 93, 3) := by decide +kernel
theorem dX9_readsRule_113 : decode cX9_readsRule 113 = .ok (.iconst 1, 1) := by decide +kernel
theorem dX9_readsRule_114 : decode cX9_readsRule 114 = .ok (.iadd, 1) := by decide +kernel
theorem dX9_readsRule_115 : decode cX9_readsRule 115 = .ok (.putfield 93, 3) := by decide +kernel
theorem dX9_readsRule_118 : decode cX9_readsRule 118 = .ok (.aload_n 0, 1) := by decide +kernel
theorem dX9_readsRule_119 : decode cX9_readsRule 119 = .ok (.aload_n 0, 1) := by decide +kernel
theorem dX9_readsRule_120 : decode cX9_readsRule 120 = .ok (.getfield 119, 3) := by decide +kernel
theorem dX9_readsRule_123 : decode cX9_readsRule 123 = .ok (.iload_n 1, 1) := by decide +kernel
theorem dX9_readsRule_124 : decode cX9_readsRule 124 = .ok (.iconst 0, 1) := by decide +kernel
theorem dX9_readsRule_125 : decode cX9_readsRule 125 = .ok (.iload_n 2, 1) := by decide +kernel
theorem dX9_readsRule_126 : decode cX9_readsRule 126 = .ok (.invokevirtual 122, 3) := by decide +kernel
theorem dX9_readsRule_129 : decode cX9_readsRule 129 = .ok (.aload_n 0, 1) := by decide +kernel
theorem dX9_readsRule_130 : decode cX9_readsRule 130 = .ok (.iload_n 2, 1) := by decide +kernel
theorem dX9_readsRule_131 : decode cX9_readsRule 131 = .ok (.iload_n 1, 1) := by decide +kernel
theorem dX9_readsRule_132 : decode cX9_readsRule 132 = .ok (.invokevirtual 142, 3) := by decide +kernel
theorem dX9_readsRule_135 : decode cX9_readsRule 135 = .ok (.ireturn, 1) := by decide +kernel
def fX9_readsRule_98  (g : PH) (v0 : Nat) : Option (Int32 × PH) :=
  (getI g v0 9 2).bind fun x1 =>
  ((fX9_fails g v0 (3 : Int32) x1).bind fun q3 =>
  (okb (vp_nar .boolean q3.1 == q3.1) (some (q3.1, q3.2))))
set_option maxHeartbeats 4000000 in
set_option maxRecDepth 100000 in
theorem bX9_readsRule_98 {K : HK} {E : HE} {r : Int32} {g' : PH}  (C : VC K E 4 cX9_readsRule RX9 (some .boolean))  {g : PH} {v0 : Nat} (hf : fX9_readsRule_98  g v0 = some (r, g')) : V K E (hRm 6 127 0 0) 4 (hZ K E (some (.int r)) g' 0 0) 0 0 (kS K) g 98 [(0, .ref v0)] [] := by
  unfold fX9_readsRule_98 at hf
  refine V.aload_n (pc := 98) C dX9_readsRule_98 0 rfl ?_
  refine V.iconst (pc := 99) C dX9_readsRule_99 (v := (3 : Int32)) (by decide) ?_
  refine V.aload_n (pc := 100) C dX9_readsRule_100 0 rfl ?_
  replace hf := ob_some hf
  obtain ⟨x1, h2, hf⟩ := hf
  refine V.getI (pc := 101) C kX9 (k := 2) (by decide) wd_1052 h2 dX9_readsRule_101 ?_
  replace hf := ob_some hf
  obtain ⟨q3, h4, hf⟩ := hf
  refine V.callV0i (pc := 104) C hyX9_fails wd_1208 (mX9_fails (r := q3.1) (g' := q3.2) K.2.1 E (kS K) h4) rfl rfl rfl (oX9_fails h4) ⟨Nat.le_of_ble_eq_true rfl, Nat.le_of_ble_eq_true rfl⟩ (Nat.le_of_ble_eq_true rfl) dX9_readsRule_104 ⟨Nat.zero_le _, Nat.zero_le _⟩ rfl ?_
  replace hf := okb_some hf
  obtain ⟨h5, hf⟩ := hf
  obtain ⟨f1, f2⟩ := fin2 hf
  clear hf
  subst f1
  subst f2
  exact V.zret (pc := 107) C (nar_z (eq_of_beq h5)) rfl dX9_readsRule_107
def fX9_readsRule_108  (g : PH) (v0 : Nat) (v1 : Int32) (v2 : Int32) : Option (Int32 × PH) :=
  (getI g v0 9 2).bind fun x1 =>
  ((putV g v0 9 2 (.int (x1 + (1 : Int32)))).bind fun g3 =>
  ((getI g3 v0 9 7).bind fun x5 =>
  ((fX9_lays g3 v0 x5 v1 (0 : Int32) v2).bind fun q7 =>
  ((fX9_readsRest q7.2 v0 v2 v1).bind fun q9 =>
  (okb (vp_nar .boolean q9.1 == q9.1) (some (q9.1, q9.2)))))))
set_option maxHeartbeats 4000000 in
set_option maxRecDepth 100000 in
theorem bX9_readsRule_108 {K : HK} {E : HE} {r : Int32} {g' : PH}  (C : VC K E 4 cX9_readsRule RX9 (some .boolean))  {g : PH} {v0 : Nat} {v1 : Int32} {v2 : Int32} (hf : fX9_readsRule_108  g v0 v1 v2 = some (r, g')) : V K E (hRm 6 127 0 0) 4 (hZ K E (some (.int r)) g' 0 0) 0 0 (kS K) g 108 [(0, .ref v0), (1, .int v1), (2, .int v2)] [] := by
  unfold fX9_readsRule_108 at hf
  refine V.aload_n (pc := 108) C dX9_readsRule_108 0 rfl ?_
  refine V.dup (pc := 109) C dX9_readsRule_109 rfl ?_
  replace hf := ob_some hf
  obtain ⟨x1, h2, hf⟩ := hf
  refine V.getI (pc := 110) C kX9 (k := 2) (by decide) wd_1052 h2 dX9_readsRule_110 ?_
  refine V.iconst (pc := 113) C dX9_readsRule_113 (v := (1 : Int32)) (by decide) ?_
  refine V.iadd (pc := 114) C dX9_readsRule_114 ?_
  replace hf := ob_some hf
  obtain ⟨g3, h4, hf⟩ := hf
  refine V.putX (pc := 115) C kX9 (k := 2) (by decide) wd_1052 rfl rfl rfl h4 dX9_readsRule_115 ?_
  refine V.aload_n (pc := 118) C dX9_readsRule_118 0 rfl ?_
  refine V.aload_n (pc := 119) C dX9_readsRule_119 0 rfl ?_
  replace hf := ob_some hf
  obtain ⟨x5, h6, hf⟩ := hf
  refine V.getI (pc := 120) C kX9 (k := 7) (by decide) wd_1057 h6 dX9_readsRule_120 ?_
  refine V.iload_n (pc := 123) C dX9_readsRule_123 1 rfl ?_
  refine V.iconst (pc := 124) C dX9_readsRule_124 (v := (0 : Int32)) (by decide) ?_
  refine V.iload_n (pc := 125) C dX9_readsRule_125 2 rfl ?_
  replace hf := ob_some hf
  obtain ⟨q7, h8, hf⟩ := hf
  refine V.callV0v (pc := 126) C hyX9_lays wd_1216 (mX9_lays (r := q7.1) (g' := q7.2) K.2.1 E (kS K) h8) rfl rfl rfl (oX9_lays h8) ⟨Nat.le_of_ble_eq_true rfl, Nat.le_of_ble_eq_true rfl⟩ (Nat.le_of_ble_eq_true rfl) dX9_readsRule_126 ⟨Nat.zero_le _, Nat.zero_le _⟩ rfl ?_
  refine V.aload_n (pc := 129) C dX9_readsRule_129 0 rfl ?_
  refine V.iload_n (pc := 130) C dX9_readsRule_130 2 rfl ?_
  refine V.iload_n (pc := 131) C dX9_readsRule_131 1 rfl ?_
  replace hf := ob_some hf
  obtain ⟨q9, h10, hf⟩ := hf
  refine V.callV0i (pc := 132) C hyX9_readsRest wd_1220 (mX9_readsRest (r := q9.1) (g' := q9.2) K.2.1 E (kS K) h10) rfl rfl rfl (oX9_readsRest h10) ⟨Nat.le_of_ble_eq_true rfl, Nat.le_of_ble_eq_true rfl⟩ (Nat.le_of_ble_eq_true rfl) dX9_readsRule_132 ⟨Nat.zero_le _, Nat.zero_le _⟩ rfl ?_
  replace hf := okb_some hf
  obtain ⟨h11, hf⟩ := hf
  obtain ⟨f1, f2⟩ := fin2 hf
  clear hf
  subst f1
  subst f2
  exact V.zret (pc := 135) C (nar_z (eq_of_beq h11)) rfl dX9_readsRule_135
def fX9_readsRule_41  (g : PH) (v0 : Nat) (v1 : Int32) (v2 : Int32) (s0 : Int32) : Option (Int32 × PH) :=
  if s0 = 0 then ((getI g v0 9 2).bind fun x19 =>
  ((fX9_fails g v0 (1 : Int32) x19).bind fun q21 =>
  (okb (vp_nar .boolean q21.1 == q21.1) (some (q21.1, q21.2))))) else
  (if v1 = (4 : Int32) then ((getI g v0 9 2).bind fun x14 =>
  ((fX9_fails g v0 (2 : Int32) x14).bind fun q16 =>
  (okb (vp_nar .boolean q16.1 == q16.1) (some (q16.1, q16.2))))) else
  (if v1 ≤ 0 then (fX9_readsRule_108 g v0 v1 v2) else
  ((fX9_isAlone g v2).bind fun q4 =>
  (if q4.1 = 0 then ((getI q4.2 v0 9 7).bind fun x7 =>
  ((fX9_ruleAt q4.2 v0 x7 (0 : Int32) (0 : Int32)).bind fun q9 =>
  ((fX9_isAlone q9.2 q9.1).bind fun q11 =>
  (if q11.1 = 0 then (fX9_readsRule_108 q11.2 v0 v1 v2) else
  (fX9_readsRule_98 q11.2 v0))))) else
  (fX9_readsRule_98 q4.2 v0)))))
set_option maxHeartbeats 4000000 in
set_option maxRecDepth 100000 in
theorem bX9_readsRule_41 {K : HK} {E : HE} {r : Int32} {g' : PH}  (C : VC K E 4 cX9_readsRule RX9 (some .boolean))  {g : PH} {v0 : Nat} {v1 : Int32} {v2 : Int32} {s0 : Int32} (hf : fX9_readsRule_41  g v0 v1 v2 s0 = some (r, g')) : V K E (hRm 6 127 0 0) 4 (hZ K E (some (.int r)) g' 0 0) 0 0 (kS K) g 41 [(0, .ref v0), (1, .int v1), (2, .int v2)] [.int s0] := by
  unfold fX9_readsRule_41 at hf
  refine V.istore_n (pc := 41) (L' := [(3, .int s0), (0, .ref v0), (1, .int v1), (2, .int v2)]) C dX9_readsRule_41 (by decide) rfl ?_
  refine V.iload_n (pc := 42) C dX9_readsRule_42 0 rfl ?_
  refine V.if_ne (pc := 43) (t := 56) C dX9_readsRule_43 (by decide) (fun c1 => ?_) (fun c1 => ?_)
  · replace hf := ite_f c1 hf
    refine V.iload_n (pc := 56) C dX9_readsRule_56 2 rfl ?_
    refine V.iconst (pc := 57) C dX9_readsRule_57 (v := (4 : Int32)) (by decide) ?_
    refine V.icmp_ne (pc := 58) (t := 71) C dX9_readsRule_58 (by decide) (fun c2 => ?_) (fun c2 => ?_)
    · replace hf := ite_f c2 hf
      refine V.iload_n (pc := 71) C dX9_readsRule_71 2 rfl ?_
      refine V.if_le (pc := 72) (t := 108) C dX9_readsRule_72 (by decide) (fun c3 => ?_) (fun c3 => ?_)
      · replace hf := ite_t c3 hf
        refine V.sub (L' := [(0, .ref v0), (1, .int v1), (2, .int v2)]) [1, 2, 3] rfl ?_
        exact bX9_readsRule_108 C  hf
      replace hf := ite_f c3 hf
      refine V.iload_n (pc := 75) C dX9_readsRule_75 3 rfl ?_
      replace hf := ob_some hf
      obtain ⟨q4, h5, hf⟩ := hf
      refine V.callS0i (pc := 76) C hyX9_isAlone wd_1205 (mX9_isAlone (r := q4.1) (g' := q4.2) K.2.1 E (kS K) h5) rfl ⟨Nat.le_of_ble_eq_true rfl, Nat.le_of_ble_eq_true rfl⟩ (Nat.le_of_ble_eq_true rfl) dX9_readsRule_76 ⟨Nat.zero_le _, Nat.zero_le _⟩ rfl ?_
      refine V.if_ne (pc := 79) (t := 98) C dX9_readsRule_79 (by decide) (fun c6 => ?_) (fun c6 => ?_)
      · replace hf := ite_f c6 hf
        refine V.sub (L' := [(0, .ref v0)]) [1] rfl ?_
        exact bX9_readsRule_98 C  hf
      replace hf := ite_t c6 hf
      refine V.aload_n (pc := 82) C dX9_readsRule_82 1 rfl ?_
      refine V.aload_n (pc := 83) C dX9_readsRule_83 1 rfl ?_
      replace hf := ob_some hf
      obtain ⟨x7, h8, hf⟩ := hf
      refine V.getI (pc := 84) C kX9 (k := 7) (by decide) wd_1057 h8 dX9_readsRule_84 ?_
      refine V.iconst (pc := 87) C dX9_readsRule_87 (v := (0 : Int32)) (by decide) ?_
      refine V.iconst (pc := 88) C dX9_readsRule_88 (v := (0 : Int32)) (by decide) ?_
      replace hf := ob_some hf
      obtain ⟨q9, h10, hf⟩ := hf
      refine V.callV0i (pc := 89) C hyX9_ruleAt wd_1212 (mX9_ruleAt (r := q9.1) (g' := q9.2) K.2.1 E (kS K) h10) rfl rfl rfl (oX9_ruleAt h10) ⟨Nat.le_of_ble_eq_true rfl, Nat.le_of_ble_eq_true rfl⟩ (Nat.le_of_ble_eq_true rfl) dX9_readsRule_89 ⟨Nat.zero_le _, Nat.zero_le _⟩ rfl ?_
      replace hf := ob_some hf
      obtain ⟨q11, h12, hf⟩ := hf
      refine V.callS0i (pc := 92) C hyX9_isAlone wd_1205 (mX9_isAlone (r := q11.1) (g' := q11.2) K.2.1 E (kS K) h12) rfl ⟨Nat.le_of_ble_eq_true rfl, Nat.le_of_ble_eq_true rfl⟩ (Nat.le_of_ble_eq_true rfl) dX9_readsRule_92 ⟨Nat.zero_le _, Nat.zero_le _⟩ rfl ?_
      refine V.if_eq (pc := 95) (t := 108) C dX9_readsRule_95 (by decide) (fun c13 => ?_) (fun c13 => ?_)
      · replace hf := ite_t c13 hf
        refine V.sub (L' := [(0, .ref v0), (1, .int v1), (2, .int v2)]) [1, 2, 3] rfl ?_
        exact bX9_readsRule_108 C  hf
      replace hf := ite_f c13 hf
      refine V.sub (L' := [(0, .ref v0)]) [1] rfl ?_
      exact bX9_readsRule_98 C  hf
    replace hf := ite_t c2 hf
    refine V.aload_n (pc := 61) C dX9_readsRule_61 1 rfl ?_
    refine V.iconst (pc := 62) C dX9_readsRule_62 (v := (2 : Int32)) (by decide) ?_
    refine V.aload_n (pc := 63) C dX9_readsRule_63 1 rfl ?_
    replace hf := ob_some hf
    obtain ⟨x14, h15, hf⟩ := hf
    refine V.getI (pc := 64) C kX9 (k := 2) (by decide) wd_1052 h15 dX9_readsRule_64 ?_
    replace hf := ob_some hf
    obtain ⟨q16, h17, hf⟩ := hf
    refine V.callV0i (pc := 67) C hyX9_fails wd_1208 (mX9_fails (r := q16.1) (g' := q16.2) K.2.1 E (kS K) h17) rfl rfl rfl (oX9_fails h17) ⟨Nat.le_of_ble_eq_true rfl, Nat.le_of_ble_eq_true rfl⟩ (Nat.le_of_ble_eq_true rfl) dX9_readsRule_67 ⟨Nat.zero_le _, Nat.zero_le _⟩ rfl ?_
    replace hf := okb_some hf
    obtain ⟨h18, hf⟩ := hf
    obtain ⟨f1, f2⟩ := fin2 hf
    clear hf
    subst f1
    subst f2
    exact V.zret (pc := 70) C (nar_z (eq_of_beq h18)) rfl dX9_readsRule_70
  replace hf := ite_t c1 hf
  refine V.aload_n (pc := 46) C dX9_readsRule_46 1 rfl ?_
  refine V.iconst (pc := 47) C dX9_readsRule_47 (v := (1 : Int32)) (by decide) ?_
  refine V.aload_n (pc := 48) C dX9_readsRule_48 1 rfl ?_
  replace hf := ob_some hf
  obtain ⟨x19, h20, hf⟩ := hf
  refine V.getI (pc := 49) C kX9 (k := 2) (by decide) wd_1052 h20 dX9_readsRule_49 ?_
  replace hf := ob_some hf
  obtain ⟨q21, h22, hf⟩ := hf
  refine V.callV0i (pc := 52) C hyX9_fails wd_1208 (mX9_fails (r := q21.1) (g' := q21.2) K.2.1 E (kS K) h22) rfl rfl rfl (oX9_fails h22) ⟨Nat.le_of_ble_eq_true rfl, Nat.le_of_ble_eq_true rfl⟩ (Nat.le_of_ble_eq_true rfl) dX9_readsRule_52 ⟨Nat.zero_le _, Nat.zero_le _⟩ rfl ?_
  replace hf := okb_some hf
  obtain ⟨h23, hf⟩ := hf
  obtain ⟨f1, f2⟩ := fin2 hf
  clear hf
  subst f1
  subst f2
  exact V.zret (pc := 55) C (nar_z (eq_of_beq h23)) rfl dX9_readsRule_55
def fX9_readsRule_36  (g : PH) (v0 : Nat) (v1 : Int32) (v2 : Int32) : Option (Int32 × PH) :=
  fX9_readsRule_41 g v0 v1 v2 (1 : Int32)
set_option maxHeartbeats 4000000 in
set_option maxRecDepth 100000 in
theorem bX9_readsRule_36 {K : HK} {E : HE} {r : Int32} {g' : PH}  (C : VC K E 4 cX9_readsRule RX9 (some .boolean))  {g : PH} {v0 : Nat} {v1 : Int32} {v2 : Int32} (hf : fX9_readsRule_36  g v0 v1 v2 = some (r, g')) : V K E (hRm 6 127 0 0) 4 (hZ K E (some (.int r)) g' 0 0) 0 0 (kS K) g 36 [(0, .ref v0), (1, .int v1), (2, .int v2)] [] := by
  unfold fX9_readsRule_36 at hf
  refine V.iconst (pc := 36) C dX9_readsRule_36 (v := (1 : Int32)) (by decide) ?_
  refine V.goto (pc := 37) (t := 41) C dX9_readsRule_37 (by decide) ?_
  refine V.sub (L' := [(0, .ref v0), (1, .int v1), (2, .int v2)]) [0, 1, 2] rfl ?_
  exact bX9_readsRule_41 C  hf
def fX9_readsRule (g : PH) (a0 : Nat) (a1 : Int32) : Option (Int32 × PH) :=
  okb (isO g a0 9) ((fX9_next g a0).bind fun q1 =>
  (if q1.1 = (118 : Int32) then (fX9_readsRule_36 q1.2 a0 a1 q1.1) else
  (if q1.1 = (97 : Int32) then (fX9_readsRule_36 q1.2 a0 a1 q1.1) else
  (if q1.1 = (115 : Int32) then (fX9_readsRule_36 q1.2 a0 a1 q1.1) else
  (if q1.1 = (107 : Int32) then (fX9_readsRule_36 q1.2 a0 a1 q1.1) else
  ((fX9_isAlone q1.2 q1.1).bind fun q7 =>
  (if q7.1 = 0 then (fX9_readsRule_41 q7.2 a0 a1 q1.1 (0 : Int32)) else
  (fX9_readsRule_36 q7.2 a0 a1 q1.1))))))))
theorem oX9_readsRule {g : PH} {a0 : Nat} {a1 : Int32} {q : (Int32 × PH)} (h : fX9_readsRule g a0 a1 = some q) : isO g a0 9 = true := by unfold fX9_readsRule at h; exact (okb_some h).1
theorem hyX9_readsRule : hMet yX9_readsRule RX9 cX9_readsRule 4 (some .boolean) 1 := ⟨wd_1196, wd_1195, ws_51, wd_7, rfl, by decide +kernel, by decide +kernel, by decide +kernel⟩
set_option maxHeartbeats 4000000 in
set_option maxRecDepth 100000 in
theorem mX9_readsRule (l : Launch) (E : HE) (sz : Nat) {g g' : PH} {a0 : Nat} {a1 : Int32} {r : Int32} (hf : fX9_readsRule g a0 a1 = some (r, g')) : hM l E yX9_readsRule cX9_readsRule 4 (some .boolean) 6 127 0 0 sz g [.ref a0, .int a1] (some (.int r)) g' := by
  refine hM.of (by decide) (Nat.le_of_ble_eq_true rfl) (fun K hl C hin hsz => ?_)
  subst hl
  subst hsz
  have C : VC K E 4 cX9_readsRule RX9 (some .boolean) := C
  unfold fX9_readsRule at hf
  replace hf := okb_some hf
  obtain ⟨ho, hf⟩ := hf
  refine V.start (L' := [(0, .ref a0), (1, .int a1)]) rfl ?_
  refine V.aload_n (pc := 0) C dX9_readsRule_0 0 rfl ?_
  replace hf := ob_some hf
  obtain ⟨q1, h2, hf⟩ := hf
  refine V.callV0i (pc := 1) C hyX9_next wd_1197 (mX9_next (r := q1.1) (g' := q1.2) K.2.1 E (kS K) h2) rfl rfl rfl (oX9_next h2) ⟨Nat.le_of_ble_eq_true rfl, Nat.le_of_ble_eq_true rfl⟩ (Nat.le_of_ble_eq_true rfl) dX9_readsRule_1 ⟨Nat.zero_le _, Nat.zero_le _⟩ rfl ?_
  refine V.istore_n (pc := 4) (L' := [(2, .int q1.1), (0, .ref a0), (1, .int a1)]) C dX9_readsRule_4 (by decide) rfl ?_
  refine V.iload_n (pc := 5) C dX9_readsRule_5 0 rfl ?_
  refine V.bipush (pc := 6) C dX9_readsRule_6 (v := (118 : Int32)) (by decide) ?_
  refine V.icmp_eq (pc := 8) (t := 36) C dX9_readsRule_8 (by decide) (fun c3 => ?_) (fun c3 => ?_)
  · replace hf := ite_t c3 hf
    refine V.sub (L' := [(0, .ref a0), (1, .int a1), (2, .int q1.1)]) [1, 2, 0] rfl ?_
    exact bX9_readsRule_36 C  hf
  replace hf := ite_f c3 hf
  refine V.iload_n (pc := 11) C dX9_readsRule_11 0 rfl ?_
  refine V.bipush (pc := 12) C dX9_readsRule_12 (v := (97 : Int32)) (by decide) ?_
  refine V.icmp_eq (pc := 14) (t := 36) C dX9_readsRule_14 (by decide) (fun c4 => ?_) (fun c4 => ?_)
  · replace hf := ite_t c4 hf
    refine V.sub (L' := [(0, .ref a0), (1, .int a1), (2, .int q1.1)]) [1, 2, 0] rfl ?_
    exact bX9_readsRule_36 C  hf
  replace hf := ite_f c4 hf
  refine V.iload_n (pc := 17) C dX9_readsRule_17 0 rfl ?_
  refine V.bipush (pc := 18) C dX9_readsRule_18 (v := (115 : Int32)) (by decide) ?_
  refine V.icmp_eq (pc := 20) (t := 36) C dX9_readsRule_20 (by decide) (fun c5 => ?_) (fun c5 => ?_)
  · replace hf := ite_t c5 hf
    refine V.sub (L' := [(0, .ref a0), (1, .int a1), (2, .int q1.1)]) [1, 2, 0] rfl ?_
    exact bX9_readsRule_36 C  hf
  replace hf := ite_f c5 hf
  refine V.iload_n (pc := 23) C dX9_readsRule_23 0 rfl ?_
  refine V.bipush (pc := 24) C dX9_readsRule_24 (v := (107 : Int32)) (by decide) ?_
  refine V.icmp_eq (pc := 26) (t := 36) C dX9_readsRule_26 (by decide) (fun c6 => ?_) (fun c6 => ?_)
  · replace hf := ite_t c6 hf
    refine V.sub (L' := [(0, .ref a0), (1, .int a1), (2, .int q1.1)]) [1, 2, 0] rfl ?_
    exact bX9_readsRule_36 C  hf
  replace hf := ite_f c6 hf
  refine V.iload_n (pc := 29) C dX9_readsRule_29 0 rfl ?_
  replace hf := ob_some hf
  obtain ⟨q7, h8, hf⟩ := hf
  refine V.callS0i (pc := 30) C hyX9_isAlone wd_1205 (mX9_isAlone (r := q7.1) (g' := q7.2) K.2.1 E (kS K) h8) rfl ⟨Nat.le_of_ble_eq_true rfl, Nat.le_of_ble_eq_true rfl⟩ (Nat.le_of_ble_eq_true rfl) dX9_readsRule_30 ⟨Nat.zero_le _, Nat.zero_le _⟩ rfl ?_
  refine V.if_eq (pc := 33) (t := 40) C dX9_readsRule_33 (by decide) (fun c9 => ?_) (fun c9 => ?_)
  · replace hf := ite_t c9 hf
    refine V.iconst (pc := 40) C dX9_readsRule_40 (v := (0 : Int32)) (by decide) ?_
    refine V.sub (L' := [(0, .ref a0), (1, .int a1), (2, .int q1.1)]) [1, 2, 0] rfl ?_
    exact bX9_readsRule_41 C  hf
  replace hf := ite_f c9 hf
  refine V.sub (L' := [(0, .ref a0), (1, .int a1), (2, .int q1.1)]) [1, 2, 0] rfl ?_
  exact bX9_readsRule_36 C  hf
