theorem dX9_writesAt_0 : decode cX9_writesAt 0 = .ok (.aload_n 0, 1) := by decide +kernel
theorem dX9_writesAt_1 : decode cX9_writesAt 1 = .ok (.getfield 32, 3) := by decide +kernel
theorem dX9_writesAt_4 : decode cX9_writesAt 4 = .ok (.iconst 4, 1) := by decide +kernel
theorem dX9_writesAt_5 : decode cX9_writesAt 5 = .ok (.iload_n 1, 1) := by decide +kernel
theorem dX9_writesAt_6 : decode cX9_writesAt 6 = .ok (.iadd, 1) := by decide +kernel
theorem dX9_writesAt_7 : decode cX9_writesAt 7 = .ok (.iaload, 1) := by decide +kernel
theorem dX9_writesAt_8 : decode cX9_writesAt 8 = .ok (.istore_n 3, 1) := by decide +kernel
theorem dX9_writesAt_9 : decode cX9_writesAt 9 = .ok (.aload_n 0, 1) := by decide +kernel
theorem dX9_writesAt_10 : decode cX9_writesAt 10 = .ok (.invokevirtual 210, 3) := by decide +kernel
theorem dX9_writesAt_13 : decode cX9_writesAt 13 = .ok (.istore 4, 2) := by decide +kernel
theorem dX9_writesAt_15 : decode cX9_writesAt 15 = .ok (.iload 4, 2) := by decide +kernel
theorem dX9_writesAt_17 : decode cX9_writesAt 17 = .ok (.bipush 110, 2) := by decide +kernel
theorem dX9_writesAt_19 : decode cX9_writesAt 19 = .ok (.if_icmp .ne 14, 3) := by decide +kernel
theorem dX9_writesAt_22 : decode cX9_writesAt 22 = .ok (.iload_n 3, 1) := by decide +kernel
theorem dX9_writesAt_23 : decode cX9_writesAt 23 = .ok (.aload_n 0, 1) := by decide +kernel
theorem dX9_writesAt_24 : decode cX9_writesAt 24 = .ok (.getfield 32, 3) := by decide +kernel
theorem dX9_writesAt_27 : decode cX9_writesAt 27 = .ok (.iconst 3, 1) := by decide +kernel
theorem dX9_writesAt_28 : decode cX9_writesAt 28 = .ok (.iaload, 1) := by decide +kernel
theorem dX9_writesAt_29 : decode cX9_writesAt 29 = .ok (.if_icmp .ne 4, 3) := by decide +kernel
theorem dX9_writesAt_32 : decode cX9_writesAt 32 = .ok (.return_, 1) := by decide +kernel
theorem dX9_writesAt_33 : decode cX9_writesAt 33 = .ok (.iload 4, 2) := by decide +kernel
theorem dX9_writesAt_35 : decode cX9_writesAt 35 = .ok (.bipush 109, 2) := by decide +kernel
theorem dX9_writesAt_37 : decode cX9_writesAt 37 = .ok (.if_icmp .ne 20, 3) := by decide +kernel
theorem dX9_writesAt_40 : decode cX9_writesAt 40 = .ok (.iload_n 3, 1) := by decide +kernel
theorem dX9_writesAt_41 : decode cX9_writesAt 41 = .ok (.aload_n 0, 1) := by decide +kernel
theorem dX9_writesAt_42 : decode cX9_writesAt 42 = .ok (.getfield 32, 3) := by decide +kernel
theorem dX9_writesAt_45 : decode cX9_writesAt 45 = .ok (.iconst 2, 1) := by decide +kernel
theorem dX9_writesAt_46 : decode cX9_writesAt 46 = .ok (.iaload, 1) := by decide +kernel
theorem dX9_writesAt_47 : decode cX9_writesAt 47 = .ok (.if_icmp .ne 10, 3) := by decide +kernel
theorem dX9_writesAt_50 : decode cX9_writesAt 50 = .ok (.aload_n 0, 1) := by decide +kernel
theorem dX9_writesAt_51 : decode cX9_writesAt 51 = .ok (.getfield 32, 3) := by decide +kernel
theorem dX9_writesAt_54 : decode cX9_writesAt 54 = .ok (.iconst 3, 1) := by decide +kernel
theorem dX9_writesAt_55 : decode cX9_writesAt 55 = .ok (.iaload, 1) := by decide +kernel
theorem dX9_writesAt_56 : decode cX9_writesAt 56 = .ok (.istore_n 3, 1) := by decide +kernel
theorem dX9_writesAt_57 : decode cX9_writesAt 57 = .ok (.aload_n 0, 1) := by decide +kernel
theorem dX9_writesAt_58 : decode cX9_writesAt 58 = .ok (.iload_n 3, 1) := by decide +kernel
theorem dX9_writesAt_59 : decode cX9_writesAt 59 = .ok (.iload_n 2, 1) := by decide +kernel
theorem dX9_writesAt_60 : decode cX9_writesAt 60 = .ok (.invokevirtual 213, 3) := by decide +kernel
theorem dX9_writesAt_63 : decode cX9_writesAt 63 = .ok (.iload 4, 2) := by decide +kernel
theorem dX9_writesAt_65 : decode cX9_writesAt 65 = .ok (.bipush 98, 2) := by decide +kernel
theorem dX9_writesAt_67 : decode cX9_writesAt 67 = .ok (.if_icmp .ne 24, 3) := by decide +kernel
theorem dX9_writesAt_70 : decode cX9_writesAt 70 = .ok (.iload_n 3, 1) := by decide +kernel
theorem dX9_writesAt_71 : decode cX9_writesAt 71 = .ok (.aload_n 0, 1) := by decide +kernel
theorem dX9_writesAt_72 : decode cX9_writesAt 72 = .ok (.getfield 32, 3) := by decide +kernel
theorem dX9_writesAt_75 : decode cX9_writesAt 75 = .ok (.iconst 2, 1) := by decide +kernel
theorem dX9_writesAt_76 : decode cX9_writesAt 76 = .ok (.iaload, 1) := by decide +kernel
theorem dX9_writesAt_77 : decode cX9_writesAt 77 = .ok (.if_icmp .ne 14, 3) := by decide +kernel
theorem dX9_writesAt_80 : decode cX9_writesAt 80 = .ok (.aload_n 0, 1) := by decide +kernel
theorem dX9_writesAt_81 : decode cX9_writesAt 81 = .ok (.aload_n 0, 1) := by decide +kernel
theorem dX9_writesAt_82 : decode cX9_writesAt 82 = .ok (.getfield 32, 3) := by decide +kernel
theorem dX9_writesAt_85 : decode cX9_writesAt 85 = .ok (.iconst 3, 1) := by decide +kernel
theorem dX9_writesAt_86 : decode cX9_writesAt 86 = .ok (.iaload, 1) := by decide +kernel
theorem dX9_writesAt_87 : decode cX9_writesAt 87 = .ok (.iload_n 2, 1) := by decide +kernel
theorem dX9_writesAt_88 : decode cX9_writesAt 88 = .ok (.invokevirtual 213, 3) := by decide +kernel
theorem dX9_writesAt_91 : decode cX9_writesAt 91 = .ok (.return_, 1) := by decide +kernel
def fX9_writesAt_57  (g : PH) (v0 : Nat) (v2 : Int32) (v3 : Int32) (v4 : Int32) : Option (Unit × PH) :=
  (fX9_writes g v0 v3 v2).bind fun q1 =>
  (if v4 = (98 : Int32) then ((getR q1.2 v0 9 16).bind fun p4 =>
  ((ldI q1.2 p4 0 (2 : Int32)).bind fun x6 =>
  (if v3 = x6 then ((getR q1.2 v0 9 16).bind fun p9 =>
  ((ldI q1.2 p9 0 (3 : Int32)).bind fun x11 =>
  ((fX9_writes q1.2 v0 x11 v2).bind fun q13 =>
  (some ((), q13.2))))) else
  (some ((), q1.2))))) else
  (some ((), q1.2)))
set_option maxHeartbeats 4000000 in
set_option maxRecDepth 100000 in
theorem bX9_writesAt_57 {K : HK} {E : HE} {r : Unit} {g' : PH}  (C : VC K E 5 cX9_writesAt RX9 none)  {g : PH} {v0 : Nat} {v2 : Int32} {v3 : Int32} {v4 : Int32} (hf : fX9_writesAt_57  g v0 v2 v3 v4 = some (r, g')) : V K E (hRm 4 96 0 0) 5 (hZ K E none g' 0 0) 0 0 (kS K) g 57 [(0, .ref v0), (2, .int v2), (3, .int v3), (4, .int v4)] [] := by
  unfold fX9_writesAt_57 at hf
  refine V.aload_n (pc := 57) C dX9_writesAt_57 0 rfl ?_
  refine V.iload_n (pc := 58) C dX9_writesAt_58 2 rfl ?_
  refine V.iload_n (pc := 59) C dX9_writesAt_59 1 rfl ?_
  replace hf := ob_some hf
  obtain ⟨q1, h2, hf⟩ := hf
  refine V.callV0v (pc := 60) C hyX9_writes wd_1384 (mX9_writes (r := q1.1) (g' := q1.2) K.2.1 E (kS K) h2) rfl rfl rfl (oX9_writes h2) ⟨Nat.le_of_ble_eq_true rfl, Nat.le_of_ble_eq_true rfl⟩ (Nat.le_of_ble_eq_true rfl) dX9_writesAt_60 ⟨Nat.zero_le _, Nat.zero_le _⟩ rfl ?_
  refine V.iload (pc := 63) C dX9_writesAt_63 3 rfl ?_
  refine V.bipush (pc := 65) C dX9_writesAt_65 (v := (98 : Int32)) (by decide) ?_
  refine V.icmp_ne (pc := 67) (t := 91) C dX9_writesAt_67 (by decide) (fun c3 => ?_) (fun c3 => ?_)
  · replace hf := ite_f c3 hf
    obtain ⟨f1, f2⟩ := fin2 hf
    clear hf
    subst f1
    subst f2
    exact V.vret (pc := 91) C rfl dX9_writesAt_91
  replace hf := ite_t c3 hf
  refine V.iload_n (pc := 70) C dX9_writesAt_70 2 rfl ?_
  refine V.aload_n (pc := 71) C dX9_writesAt_71 0 rfl ?_
  replace hf := ob_some hf
  obtain ⟨p4, h5, hf⟩ := hf
  refine V.getR (pc := 72) C kX9 (k := 16) (by decide) wd_1066 h5 dX9_writesAt_72 ?_
  refine V.iconst (pc := 75) C dX9_writesAt_75 (v := (2 : Int32)) (by decide) ?_
  replace hf := ob_some hf
  obtain ⟨x6, h7, hf⟩ := hf
  refine V.iald (pc := 76) C h7 dX9_writesAt_76 ?_
  refine V.icmp_ne (pc := 77) (t := 91) C dX9_writesAt_77 (by decide) (fun c8 => ?_) (fun c8 => ?_)
  · replace hf := ite_f c8 hf
    obtain ⟨f1, f2⟩ := fin2 hf
    clear hf
    subst f1
    subst f2
    exact V.vret (pc := 91) C rfl dX9_writesAt_91
  replace hf := ite_t c8 hf
  refine V.aload_n (pc := 80) C dX9_writesAt_80 0 rfl ?_
  refine V.aload_n (pc := 81) C dX9_writesAt_81 0 rfl ?_
  replace hf := ob_some hf
  obtain ⟨p9, h10, hf⟩ := hf
  refine V.getR (pc := 82) C kX9 (k := 16) (by decide) wd_1066 h10 dX9_writesAt_82 ?_
  refine V.iconst (pc := 85) C dX9_writesAt_85 (v := (3 : Int32)) (by decide) ?_
  replace hf := ob_some hf
  obtain ⟨x11, h12, hf⟩ := hf
  refine V.iald (pc := 86) C h12 dX9_writesAt_86 ?_
  refine V.iload_n (pc := 87) C dX9_writesAt_87 1 rfl ?_
  replace hf := ob_some hf
  obtain ⟨q13, h14, hf⟩ := hf
  refine V.callV0v (pc := 88) C hyX9_writes wd_1384 (mX9_writes (r := q13.1) (g' := q13.2) K.2.1 E (kS K) h14) rfl rfl rfl (oX9_writes h14) ⟨Nat.le_of_ble_eq_true rfl, Nat.le_of_ble_eq_true rfl⟩ (Nat.le_of_ble_eq_true rfl) dX9_writesAt_88 ⟨Nat.zero_le _, Nat.zero_le _⟩ rfl ?_
  obtain ⟨f1, f2⟩ := fin2 hf
  clear hf
  subst f1
  subst f2
  exact V.vret (pc := 91) C rfl dX9_writesAt_91
def fX9_writesAt_33  (g : PH) (v0 : Nat) (v2 : Int32) (v3 : Int32) (v4 : Int32) : Option (Unit × PH) :=
  if v4 = (109 : Int32) then ((getR g v0 9 16).bind fun p2 =>
  ((ldI g p2 0 (2 : Int32)).bind fun x4 =>
  (if v3 = x4 then ((getR g v0 9 16).bind fun p7 =>
  ((ldI g p7 0 (3 : Int32)).bind fun x9 =>
  (fX9_writesAt_57 g v0 v2 x9 v4))) else
  (fX9_writesAt_57 g v0 v2 v3 v4)))) else
  (fX9_writesAt_57 g v0 v2 v3 v4)
set_option maxHeartbeats 4000000 in
set_option maxRecDepth 100000 in
theorem bX9_writesAt_33 {K : HK} {E : HE} {r : Unit} {g' : PH}  (C : VC K E 5 cX9_writesAt RX9 none)  {g : PH} {v0 : Nat} {v2 : Int32} {v3 : Int32} {v4 : Int32} (hf : fX9_writesAt_33  g v0 v2 v3 v4 = some (r, g')) : V K E (hRm 4 96 0 0) 5 (hZ K E none g' 0 0) 0 0 (kS K) g 33 [(0, .ref v0), (2, .int v2), (3, .int v3), (4, .int v4)] [] := by
  unfold fX9_writesAt_33 at hf
  refine V.iload (pc := 33) C dX9_writesAt_33 3 rfl ?_
  refine V.bipush (pc := 35) C dX9_writesAt_35 (v := (109 : Int32)) (by decide) ?_
  refine V.icmp_ne (pc := 37) (t := 57) C dX9_writesAt_37 (by decide) (fun c1 => ?_) (fun c1 => ?_)
  · replace hf := ite_f c1 hf
    refine V.sub (L' := [(0, .ref v0), (2, .int v2), (3, .int v3), (4, .int v4)]) [0, 1, 2, 3] rfl ?_
    exact bX9_writesAt_57 C  hf
  replace hf := ite_t c1 hf
  refine V.iload_n (pc := 40) C dX9_writesAt_40 2 rfl ?_
  refine V.aload_n (pc := 41) C dX9_writesAt_41 0 rfl ?_
  replace hf := ob_some hf
  obtain ⟨p2, h3, hf⟩ := hf
  refine V.getR (pc := 42) C kX9 (k := 16) (by decide) wd_1066 h3 dX9_writesAt_42 ?_
  refine V.iconst (pc := 45) C dX9_writesAt_45 (v := (2 : Int32)) (by decide) ?_
  replace hf := ob_some hf
  obtain ⟨x4, h5, hf⟩ := hf
  refine V.iald (pc := 46) C h5 dX9_writesAt_46 ?_
  refine V.icmp_ne (pc := 47) (t := 57) C dX9_writesAt_47 (by decide) (fun c6 => ?_) (fun c6 => ?_)
  · replace hf := ite_f c6 hf
    refine V.sub (L' := [(0, .ref v0), (2, .int v2), (3, .int v3), (4, .int v4)]) [0, 1, 2, 3] rfl ?_
    exact bX9_writesAt_57 C  hf
  replace hf := ite_t c6 hf
  refine V.aload_n (pc := 50) C dX9_writesAt_50 0 rfl ?_
  replace hf := ob_some hf
  obtain ⟨p7, h8, hf⟩ := hf
  refine V.getR (pc := 51) C kX9 (k := 16) (by decide) wd_1066 h8 dX9_writesAt_51 ?_
  refine V.iconst (pc := 54) C dX9_writesAt_54 (v := (3 : Int32)) (by decide) ?_
  replace hf := ob_some hf
  obtain ⟨x9, h10, hf⟩ := hf
  refine V.iald (pc := 55) C h10 dX9_writesAt_55 ?_
  refine V.istore_n (pc := 56) (L' := [(3, .int x9), (0, .ref v0), (2, .int v2), (4, .int v4)]) C dX9_writesAt_56 (by decide) rfl ?_
  refine V.sub (L' := [(0, .ref v0), (2, .int v2), (3, .int x9), (4, .int v4)]) [1, 2, 0, 3] rfl ?_
  exact bX9_writesAt_57 C  hf
def fX9_writesAt (g : PH) (a0 : Nat) (a1 : Int32) (a2 : Int32) : Option (Unit × PH) :=
  okb (isO g a0 9) ((getR g a0 9 16).bind fun p1 =>
  ((ldI g p1 0 ((4 : Int32) + a1)).bind fun x3 =>
  ((fX9_letterIn g a0).bind fun q5 =>
  (if q5.1 = (110 : Int32) then ((getR q5.2 a0 9 16).bind fun p8 =>
  ((ldI q5.2 p8 0 (3 : Int32)).bind fun x10 =>
  (if x3 = x10 then (some ((), q5.2)) else
  (fX9_writesAt_33 q5.2 a0 a2 x3 q5.1)))) else
  (fX9_writesAt_33 q5.2 a0 a2 x3 q5.1)))))
theorem oX9_writesAt {g : PH} {a0 : Nat} {a1 : Int32} {a2 : Int32} {q : (Unit × PH)} (h : fX9_writesAt g a0 a1 a2 = some q) : isO g a0 9 = true := by unfold fX9_writesAt at h; exact (okb_some h).1
theorem hyX9_writesAt : hMet yX9_writesAt RX9 cX9_writesAt 5 none 2 := ⟨wd_1383, wd_1382, ws_90, wd_7, rfl, by decide +kernel, by decide +kernel, by decide +kernel⟩
set_option maxHeartbeats 4000000 in
set_option maxRecDepth 100000 in
theorem mX9_writesAt (l : Launch) (E : HE) (sz : Nat) {g g' : PH} {a0 : Nat} {a1 : Int32} {a2 : Int32} {r : Unit} (hf : fX9_writesAt g a0 a1 a2 = some (r, g')) : hM l E yX9_writesAt cX9_writesAt 5 none 4 96 0 0 sz g [.ref a0, .int a1, .int a2] none g' := by
  refine hM.of (by decide) (Nat.le_of_ble_eq_true rfl) (fun K hl C hin hsz => ?_)
  subst hl
  subst hsz
  have C : VC K E 5 cX9_writesAt RX9 none := C
  unfold fX9_writesAt at hf
  replace hf := okb_some hf
  obtain ⟨ho, hf⟩ := hf
  refine V.start (L' := [(0, .ref a0), (1, .int a1), (2, .int a2)]) rfl ?_
  refine V.aload_n (pc := 0) C dX9_writesAt_0 0 rfl ?_
  replace hf := ob_some hf
  obtain ⟨p1, h2, hf⟩ := hf
  refine V.getR (pc := 1) C kX9 (k := 16) (by decide) wd_1066 h2 dX9_writesAt_1 ?_
  refine V.iconst (pc := 4) C dX9_writesAt_4 (v := (4 : Int32)) (by decide) ?_
  refine V.iload_n (pc := 5) C dX9_writesAt_5 1 rfl ?_
  refine V.iadd (pc := 6) C dX9_writesAt_6 ?_
  replace hf := ob_some hf
  obtain ⟨x3, h4, hf⟩ := hf
  refine V.iald (pc := 7) C h4 dX9_writesAt_7 ?_
  refine V.istore_n (pc := 8) (L' := [(3, .int x3), (0, .ref a0), (1, .int a1), (2, .int a2)]) C dX9_writesAt_8 (by decide) rfl ?_
  refine V.aload_n (pc := 9) C dX9_writesAt_9 1 rfl ?_
  replace hf := ob_some hf
  obtain ⟨q5, h6, hf⟩ := hf
  refine V.callV0i (pc := 10) C hyX9_letterIn wd_1368 (mX9_letterIn (r := q5.1) (g' := q5.2) K.2.1 E (kS K) h6) rfl rfl rfl (oX9_letterIn h6) ⟨Nat.le_of_ble_eq_true rfl, Nat.le_of_ble_eq_true rfl⟩ (Nat.le_of_ble_eq_true rfl) dX9_writesAt_10 ⟨Nat.zero_le _, Nat.zero_le _⟩ rfl ?_
  refine V.istore (pc := 13) (L' := [(4, .int q5.1), (3, .int x3), (0, .ref a0), (1, .int a1), (2, .int a2)]) C dX9_writesAt_13 (by decide) rfl ?_
  refine V.iload (pc := 15) C dX9_writesAt_15 0 rfl ?_
  refine V.bipush (pc := 17) C dX9_writesAt_17 (v := (110 : Int32)) (by decide) ?_
  refine V.icmp_ne (pc := 19) (t := 33) C dX9_writesAt_19 (by decide) (fun c7 => ?_) (fun c7 => ?_)
  · replace hf := ite_f c7 hf
    refine V.sub (L' := [(0, .ref a0), (2, .int a2), (3, .int x3), (4, .int q5.1)]) [2, 4, 1, 0] rfl ?_
    exact bX9_writesAt_33 C  hf
  replace hf := ite_t c7 hf
  refine V.iload_n (pc := 22) C dX9_writesAt_22 1 rfl ?_
  refine V.aload_n (pc := 23) C dX9_writesAt_23 2 rfl ?_
  replace hf := ob_some hf
  obtain ⟨p8, h9, hf⟩ := hf
  refine V.getR (pc := 24) C kX9 (k := 16) (by decide) wd_1066 h9 dX9_writesAt_24 ?_
  refine V.iconst (pc := 27) C dX9_writesAt_27 (v := (3 : Int32)) (by decide) ?_
  replace hf := ob_some hf
  obtain ⟨x10, h11, hf⟩ := hf
  refine V.iald (pc := 28) C h11 dX9_writesAt_28 ?_
  refine V.icmp_ne (pc := 29) (t := 33) C dX9_writesAt_29 (by decide) (fun c12 => ?_) (fun c12 => ?_)
  · replace hf := ite_f c12 hf
    refine V.sub (L' := [(0, .ref a0), (2, .int a2), (3, .int x3), (4, .int q5.1)]) [2, 4, 1, 0] rfl ?_
    exact bX9_writesAt_33 C  hf
  replace hf := ite_t c12 hf
  obtain ⟨f1, f2⟩ := fin2 hf
  clear hf
  subst f1
  subst f2
  exact V.vret (pc := 32) C rfl dX9_writesAt_32
theorem dX9_readsAt_0 : decode cX9_readsAt 0 = .ok (.aload_n 0, 1) := by decide +kernel
theorem dX9_readsAt_1 : decode cX9_readsAt 1 = .ok (.getfield 32, 3) := by decide +kernel
theorem dX9_readsAt_4 : decode cX9_readsAt 4 = .ok (.iconst 4, 1) := by decide +kernel
theorem dX9_readsAt_5 : decode cX9_readsAt 5 = .ok (.iload_n 1, 1) := by decide +kernel
theorem dX9_readsAt_6 : decode cX9_readsAt 6 = .ok (.iadd, 1) := by decide +kernel
theorem dX9_readsAt_7 : decode cX9_readsAt 7 = .ok (.iaload, 1) := by decide +kernel
theorem dX9_readsAt_8 : decode cX9_readsAt 8 = .ok (.istore_n 2, 1) := by decide +kernel
theorem dX9_readsAt_9 : decode cX9_readsAt 9 = .ok (.aload_n 0, 1) := by decide +kernel
theorem dX9_readsAt_10 : decode cX9_readsAt 10 = .ok (.invokevirtual 210, 3) := by decide +kernel
theorem dX9_readsAt_13 : decode cX9_readsAt 13 = .ok (.istore_n 3, 1) := by decide +kernel
theorem dX9_readsAt_14 : decode cX9_readsAt 14 = .ok (.iload_n 3, 1) := by decide +kernel
theorem dX9_readsAt_15 : decode cX9_readsAt 15 = .ok (.bipush 110, 2) := by decide +kernel
theorem dX9_readsAt_17 : decode cX9_readsAt 17 = .ok (.if_icmp .ne 20, 3) := by decide +kernel
theorem dX9_readsAt_20 : decode cX9_readsAt 20 = .ok (.iload_n 2, 1) := by decide +kernel
theorem dX9_readsAt_21 : decode cX9_readsAt 21 = .ok (.aload_n 0, 1) := by decide +kernel
theorem dX9_readsAt_22 : decode cX9_readsAt 22 = .ok (.getfield 32, 3) := by decide +kernel
theorem dX9_readsAt_25 : decode cX9_readsAt 25 = .ok (.iconst 3, 1) := by decide +kernel
theorem dX9_readsAt_26 : decode cX9_readsAt 26 = .ok (.iaload, 1) := by decide +kernel
theorem dX9_readsAt_27 : decode cX9_readsAt 27 = .ok (.if_icmp .ne 10, 3) := by decide +kernel
theorem dX9_readsAt_30 : decode cX9_readsAt 30 = .ok (.aload_n 0, 1) := by decide +kernel
theorem dX9_readsAt_31 : decode cX9_readsAt 31 = .ok (.iconst 0, 1) := by decide +kernel
theorem dX9_readsAt_32 : decode cX9_readsAt 32 = .ok (.iconst 3, 1) := by decide +kernel
theorem dX9_readsAt_33 : decode cX9_readsAt 33 = .ok (.invokevirtual 192, 3) := by decide +kernel
theorem dX9_readsAt_36 : decode cX9_readsAt 36 = .ok (.ireturn, 1) := by decide +kernel
theorem dX9_readsAt_37 : decode cX9_readsAt 37 = .ok (.iload_n 3, 1) := by decide +kernel
theorem dX9_readsAt_38 : decode cX9_readsAt 38 = .ok (.bipush 109, 2) := by decide +kernel
theorem dX9_readsAt_40 : decode cX9_readsAt 40 = .ok (.if_icmp .ne 20, 3) := by decide +kernel
theorem dX9_readsAt_43 : decode cX9_readsAt 43 = .ok (.iload_n 2, 1) := by decide +kernel
theorem dX9_readsAt_44 : decode cX9_readsAt 44 = .ok (.aload_n 0, 1) := by decide +kernel
theorem dX9_readsAt_45 : decode cX9_readsAt 45 = .ok (.getfield 32, 3) := by decide +kernel
theorem dX9_readsAt_48 : decode cX9_readsAt 48 = .ok (.iconst 2, 1) := by decide +kernel
theorem dX9_readsAt_49 : decode cX9_readsAt 49 = .ok (.iaload, 1) := by decide +kernel
theorem dX9_readsAt_50 : decode cX9_readsAt 50 = .ok (.if_icmp .ne 10, 3) := by decide +kernel
theorem dX9_readsAt_53 : decode cX9_readsAt 53 = .ok (.aload_n 0, 1) := by decide +kernel
theorem dX9_readsAt_54 : decode cX9_readsAt 54 = .ok (.getfield 32, 3) := by decide +kernel
theorem dX9_readsAt_57 : decode cX9_readsAt 57 = .ok (.iconst 3, 1) := by decide +kernel
theorem dX9_readsAt_58 : decode cX9_readsAt 58 = .ok (.iaload, 1) := by decide +kernel
theorem dX9_readsAt_59 : decode cX9_readsAt 59 = .ok (.istore_n 2, 1) := by decide +kernel
theorem dX9_readsAt_60 : decode cX9_readsAt 60 = .ok (.aload_n 0, 1) := by decide +kernel
theorem dX9_readsAt_61 : decode cX9_readsAt 61 = .ok (.iload_n 2, 1) := by decide +kernel
theorem dX9_readsAt_62 : decode cX9_readsAt 62 = .ok (.invokevirtual 216, 3) := by decide +kernel
theorem dX9_readsAt_65 : decode cX9_readsAt 65 = .ok (.istore 4, 2) := by decide +kernel
theorem dX9_readsAt_67 : decode cX9_readsAt 67 = .ok (.iload_n 3, 1) := by decide +kernel
theorem dX9_readsAt_68 : decode cX9_readsAt 68 = .ok (.bipush 98, 2) := by decide +kernel
theorem dX9_readsAt_70 : decode cX9_readsAt 70 = .ok (.if_icmp .ne 13, 3) := by decide +kernel
theorem dX9_readsAt_73 : decode cX9_readsAt 73 = .ok (.iload_n 2, 1) := by decide +kernel
theorem dX9_readsAt_74 : decode cX9_readsAt 74 = .ok (.aload_n 0, 1) := by decide +kernel
theorem dX9_readsAt_75 : decode cX9_readsAt 75 = .ok (.getfield 32, 3) := by decide +kernel
theorem dX9_readsAt_78 : decode cX9_readsAt 78 = .ok (.iconst 2, 1) := by decide +kernel
theorem dX9_readsAt_79 : decode cX9_readsAt 79 = .ok (.iaload, 1) := by decide +kernel
theorem dX9_readsAt_80 : decode cX9_readsAt 80 = .ok (.if_icmp .eq 6, 3) := by decide +kernel
theorem dX9_readsAt_83 : decode cX9_readsAt 83 = .ok (.iload 4, 2) := by decide +kernel
theorem dX9_readsAt_85 : decode cX9_readsAt 85 = .ok (.ireturn, 1) := by decide +kernel
theorem dX9_readsAt_86 : decode cX9_readsAt 86 = .ok (.aload_n 0, 1) := by decide +kernel
theorem dX9_readsAt_87 : decode cX9_readsAt 87 = .ok (.aload_n 0, 1) := by decide +kernel
theorem dX9_readsAt_88 : decode cX9_readsAt 88 = .ok (.getfield 32, 3) := by decide +kernel
theorem dX9_readsAt_91 : decode cX9_readsAt 91 = .ok (.iconst 3, 1) := by decide +kernel
theorem dX9_readsAt_92 : decode cX9_readsAt 92 = .ok (.iaload, 1) := by decide +kernel
theorem dX9_readsAt_93 : decode cX9_readsAt 93 = .ok (.invokevirtual 216, 3) := by decide +kernel
theorem dX9_readsAt_96 : decode cX9_readsAt 96 = .ok (.istore 5, 2) := by decide +kernel
theorem dX9_readsAt_98 : decode cX9_readsAt 98 = .ok (.aload_n 0, 1) := by decide +kernel
theorem dX9_readsAt_99 : decode cX9_readsAt 99 = .ok (.iconst 0, 1) := by decide +kernel
theorem dX9_readsAt_100 : decode cX9_readsAt 100 = .ok (.iconst 3, 1) := by decide +kernel
theorem dX9_readsAt_101 : decode cX9_readsAt 101 = .ok (.invokevirtual 192, 3) := by decide +kernel
theorem dX9_readsAt_104 : decode cX9_readsAt 104 = .ok (.iconst 1, 1) := by decide +kernel
theorem dX9_readsAt_105 : decode cX9_readsAt 105 = .ok (.if_icmp .ne 11, 3) := by decide +kernel
theorem dX9_readsAt_108 : decode cX9_readsAt 108 = .ok (.iload 4, 2) := by decide +kernel
theorem dX9_readsAt_110 : decode cX9_readsAt 110 = .ok (.iload 5, 2) := by decide +kernel
theorem dX9_readsAt_112 : decode cX9_readsAt 112 = .ok (.ior, 1) := by decide +kernel
theorem dX9_readsAt_113 : decode cX9_readsAt 113 = .ok (.goto 8, 3) := by decide +kernel
theorem dX9_readsAt_116 : decode cX9_readsAt 116 = .ok (.iload 4, 2) := by decide +kernel
theorem dX9_readsAt_118 : decode cX9_readsAt 118 = .ok (.iload 5, 2) := by decide +kernel
theorem dX9_readsAt_120 : decode cX9_readsAt 120 = .ok (.iand, 1) := by decide +kernel
theorem dX9_readsAt_121 : decode cX9_readsAt 121 = .ok (.ireturn, 1) := by decide +kernel
def fX9_readsAt_60  (g : PH) (v0 : Nat) (v2 : Int32) (v3 : Int32) : Option (Int32 × PH) :=
  (fX9_reads g v0 v2).bind fun q1 =>
  (if v3 = (98 : Int32) then ((getR q1.2 v0 9 16).bind fun p4 =>
  ((ldI q1.2 p4 0 (2 : Int32)).bind fun x6 =>
  (if v2 = x6 then ((getR q1.2 v0 9 16).bind fun p9 =>
  ((ldI q1.2 p9 0 (3 : Int32)).bind fun x11 =>
  ((fX9_reads q1.2 v0 x11).bind fun q13 =>
  ((fX9_toldBy q13.2 v0 (0 : Int32) (3 : Int32)).bind fun q15 =>
  (if q15.1 = (1 : Int32) then (some ((q1.1 ||| q13.1), q15.2)) else
  (some ((q1.1 &&& q13.1), q15.2))))))) else
  (some (q1.1, q1.2))))) else
  (some (q1.1, q1.2)))
set_option maxHeartbeats 4000000 in
set_option maxRecDepth 100000 in
theorem bX9_readsAt_60 {K : HK} {E : HE} {r : Int32} {g' : PH}  (C : VC K E 6 cX9_readsAt RX9 (some .int))  {g : PH} {v0 : Nat} {v2 : Int32} {v3 : Int32} (hf : fX9_readsAt_60  g v0 v2 v3 = some (r, g')) : V K E (hRm 4 96 0 0) 6 (hZ K E (some (.int r)) g' 0 0) 0 0 (kS K) g 60 [(0, .ref v0), (2, .int v2), (3, .int v3)] [] := by
  unfold fX9_readsAt_60 at hf
  refine V.aload_n (pc := 60) C dX9_readsAt_60 0 rfl ?_
  refine V.iload_n (pc := 61) C dX9_readsAt_61 1 rfl ?_
  replace hf := ob_some hf
  obtain ⟨q1, h2, hf⟩ := hf
  refine V.callV0i (pc := 62) C hyX9_reads wd_1372 (mX9_reads (r := q1.1) (g' := q1.2) K.2.1 E (kS K) h2) rfl rfl rfl (oX9_reads h2) ⟨Nat.le_of_ble_eq_true rfl, Nat.le_of_ble_eq_true rfl⟩ (Nat.le_of_ble_eq_true rfl) dX9_readsAt_62 ⟨Nat.zero_le _, Nat.zero_le _⟩ rfl ?_
  refine V.istore (pc := 65) (L' := [(4, .int q1.1), (0, .ref v0), (2, .int v2), (3, .int v3)]) C dX9_readsAt_65 (by decide) rfl ?_
  refine V.iload_n (pc := 67) C dX9_readsAt_67 3 rfl ?_
  refine V.bipush (pc := 68) C dX9_readsAt_68 (v := (98 : Int32)) (by decide) ?_
  refine V.icmp_ne (pc := 70) (t := 83) C dX9_readsAt_70 (by decide) (fun c3 => ?_) (fun c3 => ?_)
  · replace hf := ite_f c3 hf
    refine V.iload (pc := 83) C dX9_readsAt_83 0 rfl ?_
    obtain ⟨f1, f2⟩ := fin2 hf
    clear hf
    subst f1
    subst f2
    exact V.iret (pc := 85) C rfl dX9_readsAt_85
  replace hf := ite_t c3 hf
  refine V.iload_n (pc := 73) C dX9_readsAt_73 2 rfl ?_
  refine V.aload_n (pc := 74) C dX9_readsAt_74 1 rfl ?_
  replace hf := ob_some hf
  obtain ⟨p4, h5, hf⟩ := hf
  refine V.getR (pc := 75) C kX9 (k := 16) (by decide) wd_1066 h5 dX9_readsAt_75 ?_
  refine V.iconst (pc := 78) C dX9_readsAt_78 (v := (2 : Int32)) (by decide) ?_
  replace hf := ob_some hf
  obtain ⟨x6, h7, hf⟩ := hf
  refine V.iald (pc := 79) C h7 dX9_readsAt_79 ?_
  refine V.icmp_eq (pc := 80) (t := 86) C dX9_readsAt_80 (by decide) (fun c8 => ?_) (fun c8 => ?_)
  · replace hf := ite_t c8 hf
    refine V.aload_n (pc := 86) C dX9_readsAt_86 1 rfl ?_
    refine V.aload_n (pc := 87) C dX9_readsAt_87 1 rfl ?_
    replace hf := ob_some hf
    obtain ⟨p9, h10, hf⟩ := hf
    refine V.getR (pc := 88) C kX9 (k := 16) (by decide) wd_1066 h10 dX9_readsAt_88 ?_
    refine V.iconst (pc := 91) C dX9_readsAt_91 (v := (3 : Int32)) (by decide) ?_
    replace hf := ob_some hf
    obtain ⟨x11, h12, hf⟩ := hf
    refine V.iald (pc := 92) C h12 dX9_readsAt_92 ?_
    replace hf := ob_some hf
    obtain ⟨q13, h14, hf⟩ := hf
    refine V.callV0i (pc := 93) C hyX9_reads wd_1372 (mX9_reads (r := q13.1) (g' := q13.2) K.2.1 E (kS K) h14) rfl rfl rfl (oX9_reads h14) ⟨Nat.le_of_ble_eq_true rfl, Nat.le_of_ble_eq_true rfl⟩ (Nat.le_of_ble_eq_true rfl) dX9_readsAt_93 ⟨Nat.zero_le _, Nat.zero_le _⟩ rfl ?_
    refine V.istore (pc := 96) (L' := [(5, .int q13.1), (4, .int q1.1), (0, .ref v0), (2, .int v2), (3, .int v3)]) C dX9_readsAt_96 (by decide) rfl ?_
    refine V.aload_n (pc := 98) C dX9_readsAt_98 2 rfl ?_
    refine V.iconst (pc := 99) C dX9_readsAt_99 (v := (0 : Int32)) (by decide) ?_
    refine V.iconst (pc := 100) C dX9_readsAt_100 (v := (3 : Int32)) (by decide) ?_
    replace hf := ob_some hf
    obtain ⟨q15, h16, hf⟩ := hf
    refine V.callV0i (pc := 101) C hyX9_toldBy wd_1337 (mX9_toldBy (r := q15.1) (g' := q15.2) K.2.1 E (kS K) h16) rfl rfl rfl (oX9_toldBy h16) ⟨Nat.le_of_ble_eq_true rfl, Nat.le_of_ble_eq_true rfl⟩ (Nat.le_of_ble_eq_true rfl) dX9_readsAt_101 ⟨Nat.zero_le _, Nat.zero_le _⟩ rfl ?_
    refine V.iconst (pc := 104) C dX9_readsAt_104 (v := (1 : Int32)) (by decide) ?_
    refine V.icmp_ne (pc := 105) (t := 116) C dX9_readsAt_105 (by decide) (fun c17 => ?_) (fun c17 => ?_)
    · replace hf := ite_f c17 hf
      refine V.iload (pc := 116) C dX9_readsAt_116 1 rfl ?_
      refine V.iload (pc := 118) C dX9_readsAt_118 0 rfl ?_
      refine V.iand (pc := 120) C dX9_readsAt_120 ?_
      obtain ⟨f1, f2⟩ := fin2 hf
      clear hf
      subst f1
      subst f2
      exact V.iret (pc := 121) C rfl dX9_readsAt_121
    replace hf := ite_t c17 hf
    refine V.iload (pc := 108) C dX9_readsAt_108 1 rfl ?_
    refine V.iload (pc := 110) C dX9_readsAt_110 0 rfl ?_
    refine V.ior (pc := 112) C dX9_readsAt_112 ?_
    refine V.goto (pc := 113) (t := 121) C dX9_readsAt_113 (by decide) ?_
    obtain ⟨f1, f2⟩ := fin2 hf
    clear hf
    subst f1
    subst f2
    exact V.iret (pc := 121) C rfl dX9_readsAt_121
  replace hf := ite_f c8 hf
  refine V.iload (pc := 83) C dX9_readsAt_83 0 rfl ?_
  obtain ⟨f1, f2⟩ := fin2 hf
  clear hf
  subst f1
  subst f2
  exact V.iret (pc := 85) C rfl dX9_readsAt_85
def fX9_readsAt_37  (g : PH) (v0 : Nat) (v2 : Int32) (v3 : Int32) : Option (Int32 × PH) :=
  if v3 = (109 : Int32) then ((getR g v0 9 16).bind fun p2 =>
  ((ldI g p2 0 (2 : Int32)).bind fun x4 =>
  (if v2 = x4 then ((getR g v0 9 16).bind fun p7 =>
  ((ldI g p7 0 (3 : Int32)).bind fun x9 =>
  (fX9_readsAt_60 g v0 x9 v3))) else
  (fX9_readsAt_60 g v0 v2 v3)))) else
  (fX9_readsAt_60 g v0 v2 v3)
set_option maxHeartbeats 4000000 in
set_option maxRecDepth 100000 in
theorem bX9_readsAt_37 {K : HK} {E : HE} {r : Int32} {g' : PH}  (C : VC K E 6 cX9_readsAt RX9 (some .int))  {g : PH} {v0 : Nat} {v2 : Int32} {v3 : Int32} (hf : fX9_readsAt_37  g v0 v2 v3 = some (r, g')) : V K E (hRm 4 96 0 0) 6 (hZ K E (some (.int r)) g' 0 0) 0 0 (kS K) g 37 [(0, .ref v0), (2, .int v2), (3, .int v3)] [] := by
  unfold fX9_readsAt_37 at hf
  refine V.iload_n (pc := 37) C dX9_readsAt_37 2 rfl ?_
  refine V.bipush (pc := 38) C dX9_readsAt_38 (v := (109 : Int32)) (by decide) ?_
  refine V.icmp_ne (pc := 40) (t := 60) C dX9_readsAt_40 (by decide) (fun c1 => ?_) (fun c1 => ?_)
  · replace hf := ite_f c1 hf
    refine V.sub (L' := [(0, .ref v0), (2, .int v2), (3, .int v3)]) [0, 1, 2] rfl ?_
    exact bX9_readsAt_60 C  hf
  replace hf := ite_t c1 hf
  refine V.iload_n (pc := 43) C dX9_readsAt_43 1 rfl ?_
  refine V.aload_n (pc := 44) C dX9_readsAt_44 0 rfl ?_
  replace hf := ob_some hf
  obtain ⟨p2, h3, hf⟩ := hf
  refine V.getR (pc := 45) C kX9 (k := 16) (by decide) wd_1066 h3 dX9_readsAt_45 ?_
  refine V.iconst (pc := 48) C dX9_readsAt_48 (v := (2 : Int32)) (by decide) ?_
  replace hf := ob_some hf
  obtain ⟨x4, h5, hf⟩ := hf
  refine V.iald (pc := 49) C h5 dX9_readsAt_49 ?_
  refine V.icmp_ne (pc := 50) (t := 60) C dX9_readsAt_50 (by decide) (fun c6 => ?_) (fun c6 => ?_)
  · replace hf := ite_f c6 hf
    refine V.sub (L' := [(0, .ref v0), (2, .int v2), (3, .int v3)]) [0, 1, 2] rfl ?_
    exact bX9_readsAt_60 C  hf
  replace hf := ite_t c6 hf
  refine V.aload_n (pc := 53) C dX9_readsAt_53 0 rfl ?_
  replace hf := ob_some hf
  obtain ⟨p7, h8, hf⟩ := hf
  refine V.getR (pc := 54) C kX9 (k := 16) (by decide) wd_1066 h8 dX9_readsAt_54 ?_
  refine V.iconst (pc := 57) C dX9_readsAt_57 (v := (3 : Int32)) (by decide) ?_
  replace hf := ob_some hf
  obtain ⟨x9, h10, hf⟩ := hf
  refine V.iald (pc := 58) C h10 dX9_readsAt_58 ?_
  refine V.istore_n (pc := 59) (L' := [(2, .int x9), (0, .ref v0), (3, .int v3)]) C dX9_readsAt_59 (by decide) rfl ?_
  refine V.sub (L' := [(0, .ref v0), (2, .int x9), (3, .int v3)]) [1, 0, 2] rfl ?_
  exact bX9_readsAt_60 C  hf
def fX9_readsAt (g : PH) (a0 : Nat) (a1 : Int32) : Option (Int32 × PH) :=
  okb (isO g a0 9) ((getR g a0 9 16).bind fun p1 =>
  ((ldI g p1 0 ((4 : Int32) + a1)).bind fun x3 =>
  ((fX9_letterIn g a0).bind fun q5 =>
  (if q5.1 = (110 : Int32) then ((getR q5.2 a0 9 16).bind fun p8 =>
  ((ldI q5.2 p8 0 (3 : Int32)).bind fun x10 =>
  (if x3 = x10 then ((fX9_toldBy q5.2 a0 (0 : Int32) (3 : Int32)).bind fun q13 =>
  (some (q13.1, q13.2))) else
  (fX9_readsAt_37 q5.2 a0 x3 q5.1)))) else
  (fX9_readsAt_37 q5.2 a0 x3 q5.1)))))
theorem oX9_readsAt {g : PH} {a0 : Nat} {a1 : Int32} {q : (Int32 × PH)} (h : fX9_readsAt g a0 a1 = some q) : isO g a0 9 = true := by unfold fX9_readsAt at h; exact (okb_some h).1
theorem hyX9_readsAt : hMet yX9_readsAt RX9 cX9_readsAt 6 (some .int) 1 := ⟨wd_1367, wd_1366, ws_86, wd_7, rfl, by decide +kernel, by decide +kernel, by decide +kernel⟩
set_option maxHeartbeats 4000000 in
set_option maxRecDepth 100000 in
theorem mX9_readsAt (l : Launch) (E : HE) (sz : Nat) {g g' : PH} {a0 : Nat} {a1 : Int32} {r : Int32} (hf : fX9_readsAt g a0 a1 = some (r, g')) : hM l E yX9_readsAt cX9_readsAt 6 (some .int) 4 96 0 0 sz g [.ref a0, .int a1] (some (.int r)) g' := by
  refine hM.of (by decide) (Nat.le_of_ble_eq_true rfl) (fun K hl C hin hsz => ?_)
  subst hl
  subst hsz
  have C : VC K E 6 cX9_readsAt RX9 (some .int) := C
  unfold fX9_readsAt at hf
  replace hf := okb_some hf
  obtain ⟨ho, hf⟩ := hf
  refine V.start (L' := [(0, .ref a0), (1, .int a1)]) rfl ?_
  refine V.aload_n (pc := 0) C dX9_readsAt_0 0 rfl ?_
  replace hf := ob_some hf
  obtain ⟨p1, h2, hf⟩ := hf
  refine V.getR (pc := 1) C kX9 (k := 16) (by decide) wd_1066 h2 dX9_readsAt_1 ?_
  refine V.iconst (pc := 4) C dX9_readsAt_4 (v := (4 : Int32)) (by decide) ?_
  refine V.iload_n (pc := 5) C dX9_readsAt_5 1 rfl ?_
  refine V.iadd (pc := 6) C dX9_readsAt_6 ?_
  replace hf := ob_some hf
  obtain ⟨x3, h4, hf⟩ := hf
  refine V.iald (pc := 7) C h4 dX9_readsAt_7 ?_
  refine V.istore_n (pc := 8) (L' := [(2, .int x3), (0, .ref a0), (1, .int a1)]) C dX9_readsAt_8 (by decide) rfl ?_
  refine V.aload_n (pc := 9) C dX9_readsAt_9 1 rfl ?_
  replace hf := ob_some hf
  obtain ⟨q5, h6, hf⟩ := hf
  refine V.callV0i (pc := 10) C hyX9_letterIn wd_1368 (mX9_letterIn (r := q5.1) (g' := q5.2) K.2.1 E (kS K) h6) rfl rfl rfl (oX9_letterIn h6) ⟨Nat.le_of_ble_eq_true rfl, Nat.le_of_ble_eq_true rfl⟩ (Nat.le_of_ble_eq_true rfl) dX9_readsAt_10 ⟨Nat.zero_le _, Nat.zero_le _⟩ rfl ?_
  refine V.istore_n (pc := 13) (L' := [(3, .int q5.1), (2, .int x3), (0, .ref a0), (1, .int a1)]) C dX9_readsAt_13 (by decide) rfl ?_
  refine V.iload_n (pc := 14) C dX9_readsAt_14 0 rfl ?_
  refine V.bipush (pc := 15) C dX9_readsAt_15 (v := (110 : Int32)) (by decide) ?_
  refine V.icmp_ne (pc := 17) (t := 37) C dX9_readsAt_17 (by decide) (fun c7 => ?_) (fun c7 => ?_)
  · replace hf := ite_f c7 hf
    refine V.sub (L' := [(0, .ref a0), (2, .int x3), (3, .int q5.1)]) [2, 1, 0] rfl ?_
    exact bX9_readsAt_37 C  hf
  replace hf := ite_t c7 hf
  refine V.iload_n (pc := 20) C dX9_readsAt_20 1 rfl ?_
  refine V.aload_n (pc := 21) C dX9_readsAt_21 2 rfl ?_
  replace hf := ob_some hf
  obtain ⟨p8, h9, hf⟩ := hf
  refine V.getR (pc := 22) C kX9 (k := 16) (by decide) wd_1066 h9 dX9_readsAt_22 ?_
  refine V.iconst (pc := 25) C dX9_readsAt_25 (v := (3 : Int32)) (by decide) ?_
  replace hf := ob_some hf
  obtain ⟨x10, h11, hf⟩ := hf
  refine V.iald (pc := 26) C h11 dX9_readsAt_26 ?_
  refine V.icmp_ne (pc := 27) (t := 37) C dX9_readsAt_27 (by decide) (fun c12 => ?_) (fun c12 => ?_)
  · replace hf := ite_f c12 hf
    refine V.sub (L' := [(0, .ref a0), (2, .int x3), (3, .int q5.1)]) [2, 1, 0] rfl ?_
    exact bX9_readsAt_37 C  hf
  replace hf := ite_t c12 hf
  refine V.aload_n (pc := 30) C dX9_readsAt_30 2 rfl ?_
  refine V.iconst (pc := 31) C dX9_readsAt_31 (v := (0 : Int32)) (by decide) ?_
  refine V.iconst (pc := 32) C dX9_readsAt_32 (v := (3 : Int32)) (by decide) ?_
  replace hf := ob_some hf
  obtain ⟨q13, h14, hf⟩ := hf
  refine V.callV0i (pc := 33) C hyX9_toldBy wd_1337 (mX9_toldBy (r := q13.1) (g' := q13.2) K.2.1 E (kS K) h14) rfl rfl rfl (oX9_toldBy h14) ⟨Nat.le_of_ble_eq_true rfl, Nat.le_of_ble_eq_true rfl⟩ (Nat.le_of_ble_eq_true rfl) dX9_readsAt_33 ⟨Nat.zero_le _, Nat.zero_le _⟩ rfl ?_
  obtain ⟨f1, f2⟩ := fin2 hf
  clear hf
  subst f1
  subst f2
  exact V.iret (pc := 36) C rfl dX9_readsAt_36
theorem dX9_readsFor_0 : decode cX9_readsFor 0 = .ok (.aload_n 0, 1) := by decide +kernel
theorem dX9_readsFor_1 : decode cX9_readsFor 1 = .ok (.iload_n 1, 1) := by decide +kernel
theorem dX9_readsFor_2 : decode cX9_readsFor 2 = .ok (.invokevirtual 219, 3) := by decide +kernel
theorem dX9_readsFor_5 : decode cX9_readsFor 5 = .ok (.iload_n 2, 1) := by decide +kernel
theorem dX9_readsFor_6 : decode cX9_readsFor 6 = .ok (.if_icmp .eq 51, 3) := by decide +kernel
theorem dX9_readsFor_9 : decode cX9_readsFor 9 = .ok (.aload_n 0, 1) := by decide +kernel
theorem dX9_readsFor_10 : decode cX9_readsFor 10 = .ok (.getfield 222, 3) := by decide +kernel
theorem dX9_readsFor_13 : decode cX9_readsFor 13 = .ok (.bipush 60, 2) := by decide +kernel
theorem dX9_readsFor_15 : decode cX9_readsFor 15 = .ok (.if_icmp .ge 32, 3) := by decide +kernel
theorem dX9_readsFor_18 : decode cX9_readsFor 18 = .ok (.aload_n 0, 1) := by decide +kernel
theorem dX9_readsFor_19 : decode cX9_readsFor 19 = .ok (.getfield 41, 3) := by decide +kernel
theorem dX9_readsFor_22 : decode cX9_readsFor 22 = .ok (.iconst 2, 1) := by decide +kernel
theorem dX9_readsFor_23 : decode cX9_readsFor 23 = .ok (.aload_n 0, 1) := by decide +kernel
theorem dX9_readsFor_24 : decode cX9_readsFor 24 = .ok (.getfield 222, 3) := by decide +kernel
theorem dX9_readsFor_27 : decode cX9_readsFor 27 = .ok (.imul, 1) := by decide +kernel
theorem dX9_readsFor_28 : decode cX9_readsFor 28 = .ok (.aload_n 0, 1) := by decide +kernel
theorem dX9_readsFor_29 : decode cX9_readsFor 29 = .ok (.getfield 225, 3) := by decide +kernel
theorem dX9_readsFor_32 : decode cX9_readsFor 32 = .ok (.iastore, 1) := by decide +kernel
theorem dX9_readsFor_33 : decode cX9_readsFor 33 = .ok (.aload_n 0, 1) := by decide +kernel
theorem dX9_readsFor_34 : decode cX9_readsFor 34 = .ok (.getfield 41, 3) := by decide +kernel
theorem dX9_readsFor_37 : decode cX9_readsFor 37 = .ok (.iconst 2, 1) := by decide +kernel
theorem dX9_readsFor_38 : decode cX9_readsFor 38 = .ok (.aload_n 0, 1) := by decide +kernel
theorem dX9_readsFor_39 : decode cX9_readsFor 39 = .ok (.getfield 222, 3) := by decide +kernel
theorem dX9_readsFor_42 : decode cX9_readsFor 42 = .ok (.imul, 1) := by decide +kernel
theorem dX9_readsFor_43 : decode cX9_readsFor 43 = .ok (.iconst 1, 1) := by decide +kernel
theorem dX9_readsFor_44 : decode cX9_readsFor 44 = .ok (.iadd, 1) := by decide +kernel
theorem dX9_readsFor_45 : decode cX9_readsFor 45 = .ok (.iload_n 1, 1) := by decide +kernel
theorem dX9_readsFor_46 : decode cX9_readsFor 46 = .ok (.iastore, 1) := by decide +kernel
theorem dX9_readsFor_47 : decode cX9_readsFor 47 = .ok (.aload_n 0, 1) := by decide +kernel
theorem dX9_readsFor_48 : decode cX9_readsFor 48 = .ok (.dup, 1) := by decide +kernel
theorem dX9_readsFor_49 : decode cX9_readsFor 49 = .ok (.getfield 222, 3) := by decide +kernel
theorem dX9_readsFor_52 : decode cX9_readsFor 52 = .ok (.iconst 1, 1) := by decide +kernel
theorem dX9_readsFor_53 : decode cX9_readsFor 53 = .ok (.iadd, 1) := by decide +kernel
theorem dX9_readsFor_54 : decode cX9_readsFor 54 = .ok (.putfield 222, 3) := by decide +kernel
theorem dX9_readsFor_57 : decode cX9_readsFor 57 = .ok (.aload_n 0, 1) := by decide +kernel
theorem dX9_readsFor_58 : decode cX9_readsFor 58 = .ok (.dup, 1) := by decide +kernel
theorem dX9_readsFor_59 : decode cX9_readsFor 59 = .ok (.getfield 225, 3) := by decide +kernel
theorem dX9_readsFor_62 : decode cX9_readsFor 62 = .ok (.iconst 1, 1) := by decide +kernel
theorem dX9_readsFor_63 : decode cX9_readsFor 63 = .ok (.iadd, 1) := by decide +kernel
theorem dX9_readsFor_64 : decode cX9_readsFor 64 = .ok (.putfield 225, 3) := by decide +kernel
theorem dX9_readsFor_67 : decode cX9_readsFor 67 = .ok (.return_, 1) := by decide +kernel
def fX9_readsFor_47  (g : PH) (v0 : Nat) : Option (Unit × PH) :=
  (getI g v0 9 20).bind fun x1 =>
  ((putV g v0 9 20 (.int (x1 + (1 : Int32)))).bind fun g3 =>
  ((getI g3 v0 9 22).bind fun x5 =>
  ((putV g3 v0 9 22 (.int (x5 + (1 : Int32)))).bind fun g7 =>
  (some ((), g7)))))
set_option maxHeartbeats 4000000 in
set_option maxRecDepth 100000 in
theorem bX9_readsFor_47 {K : HK} {E : HE} {r : Unit} {g' : PH}  (C : VC K E 3 cX9_readsFor RX9 none)  {g : PH} {v0 : Nat} (hf : fX9_readsFor_47  g v0 = some (r, g')) : V K E (hRm 5 121 0 0) 3 (hZ K E none g' 0 0) 0 0 (kS K) g 47 [(0, .ref v0)] [] := by
  unfold fX9_readsFor_47 at hf
  refine V.aload_n (pc := 47) C dX9_readsFor_47 0 rfl ?_
  refine V.dup (pc := 48) C dX9_readsFor_48 rfl ?_
  replace hf := ob_some hf
  obtain ⟨x1, h2, hf⟩ := hf
  refine V.getI (pc := 49) C kX9 (k := 20) (by decide) wd_1070 h2 dX9_readsFor_49 ?_
  refine V.iconst (pc := 52) C dX9_readsFor_52 (v := (1 : Int32)) (by decide) ?_
  refine V.iadd (pc := 53) C dX9_readsFor_53 ?_
  replace hf := ob_some hf
  obtain ⟨g3, h4, hf⟩ := hf
  refine V.putX (pc := 54) C kX9 (k := 20) (by decide) wd_1070 rfl rfl rfl h4 dX9_readsFor_54 ?_
  refine V.aload_n (pc := 57) C dX9_readsFor_57 0 rfl ?_
  refine V.dup (pc := 58) C dX9_readsFor_58 rfl ?_
  replace hf := ob_some hf
  obtain ⟨x5, h6, hf⟩ := hf
  refine V.getI (pc := 59) C kX9 (k := 22) (by decide) wd_1072 h6 dX9_readsFor_59 ?_
  refine V.iconst (pc := 62) C dX9_readsFor_62 (v := (1 : Int32)) (by decide) ?_
  refine V.iadd (pc := 63) C dX9_readsFor_63 ?_
  replace hf := ob_some hf
  obtain ⟨g7, h8, hf⟩ := hf
  refine V.putX (pc := 64) C kX9 (k := 22) (by decide) wd_1072 rfl rfl rfl h8 dX9_readsFor_64 ?_
  obtain ⟨f1, f2⟩ := fin2 hf
  clear hf
  subst f1
  subst f2
  exact V.vret (pc := 67) C rfl dX9_readsFor_67
def fX9_readsFor (g : PH) (a0 : Nat) (a1 : Int32) (a2 : Int32) : Option (Unit × PH) :=
  okb (isO g a0 9) ((fX9_readsAt g a0 a1).bind fun q1 =>
  (if q1.1 = a2 then ((getI q1.2 a0 9 22).bind fun x4 =>
  ((putV q1.2 a0 9 22 (.int (x4 + (1 : Int32)))).bind fun g6 =>
  (some ((), g6)))) else
  ((getI q1.2 a0 9 20).bind fun x8 =>
  (if (60 : Int32) ≤ x8 then (fX9_readsFor_47 q1.2 a0) else
  ((getR q1.2 a0 9 21).bind fun p11 =>
  ((getI q1.2 a0 9 20).bind fun x13 =>
  ((getI q1.2 a0 9 22).bind fun x15 =>
  ((stI q1.2 p11 0 ((2 : Int32) * x13) x15).bind fun g17 =>
  ((getR g17 a0 9 21).bind fun p19 =>
  ((getI g17 a0 9 20).bind fun x21 =>
  ((stI g17 p19 0 (((2 : Int32) * x21) + (1 : Int32)) a1).bind fun g23 =>
  (fX9_readsFor_47 g23 a0))))))))))))
theorem oX9_readsFor {g : PH} {a0 : Nat} {a1 : Int32} {a2 : Int32} {q : (Unit × PH)} (h : fX9_readsFor g a0 a1 a2 = some q) : isO g a0 9 = true := by unfold fX9_readsFor at h; exact (okb_some h).1
theorem hyX9_readsFor : hMet yX9_readsFor RX9 cX9_readsFor 3 none 2 := ⟨wd_1363, wd_1362, ws_85, wd_7, rfl, by decide +kernel, by decide +kernel, by decide +kernel⟩
set_option maxHeartbeats 4000000 in
set_option maxRecDepth 100000 in
theorem mX9_readsFor (l : Launch) (E : HE) (sz : Nat) {g g' : PH} {a0 : Nat} {a1 : Int32} {a2 : Int32} {r : Unit} (hf : fX9_readsFor g a0 a1 a2 = some (r, g')) : hM l E yX9_readsFor cX9_readsFor 3 none 5 121 0 0 sz g [.ref a0, .int a1, .int a2] none g' := by
  refine hM.of (by decide) (Nat.le_of_ble_eq_true rfl) (fun K hl C hin hsz => ?_)
  subst hl
  subst hsz
  have C : VC K E 3 cX9_readsFor RX9 none := C
  unfold fX9_readsFor at hf
  replace hf := okb_some hf
  obtain ⟨ho, hf⟩ := hf
  refine V.start (L' := [(0, .ref a0), (1, .int a1), (2, .int a2)]) rfl ?_
  refine V.aload_n (pc := 0) C dX9_readsFor_0 0 rfl ?_
  refine V.iload_n (pc := 1) C dX9_readsFor_1 1 rfl ?_
  replace hf := ob_some hf
  obtain ⟨q1, h2, hf⟩ := hf
  refine V.callV0i (pc := 2) C hyX9_readsAt wd_1364 (mX9_readsAt (r := q1.1) (g' := q1.2) K.2.1 E (kS K) h2) rfl rfl rfl (oX9_readsAt h2) ⟨Nat.le_of_ble_eq_true rfl, Nat.le_of_ble_eq_true rfl⟩ (Nat.le_of_ble_eq_true rfl) dX9_readsFor_2 ⟨Nat.zero_le _, Nat.zero_le _⟩ rfl ?_
  refine V.iload_n (pc := 5) C dX9_readsFor_5 2 rfl ?_
  refine V.icmp_eq (pc := 6) (t := 57) C dX9_readsFor_6 (by decide) (fun c3 => ?_) (fun c3 => ?_)
  · replace hf := ite_t c3 hf
    refine V.aload_n (pc := 57) C dX9_readsFor_57 0 rfl ?_
    refine V.dup (pc := 58) C dX9_readsFor_58 rfl ?_
    replace hf := ob_some hf
    obtain ⟨x4, h5, hf⟩ := hf
    refine V.getI (pc := 59) C kX9 (k := 22) (by decide) wd_1072 h5 dX9_readsFor_59 ?_
    refine V.iconst (pc := 62) C dX9_readsFor_62 (v := (1 : Int32)) (by decide) ?_
    refine V.iadd (pc := 63) C dX9_readsFor_63 ?_
    replace hf := ob_some hf
    obtain ⟨g6, h7, hf⟩ := hf
    refine V.putX (pc := 64) C kX9 (k := 22) (by decide) wd_1072 rfl rfl rfl h7 dX9_readsFor_64 ?_
    obtain ⟨f1, f2⟩ := fin2 hf
    clear hf
    subst f1
    subst f2
    exact V.vret (pc := 67) C rfl dX9_readsFor_67
  replace hf := ite_f c3 hf
  refine V.aload_n (pc := 9) C dX9_readsFor_9 0 rfl ?_
  replace hf := ob_some hf
  obtain ⟨x8, h9, hf⟩ := hf
  refine V.getI (pc := 10) C kX9 (k := 20) (by decide) wd_1070 h9 dX9_readsFor_10 ?_
  refine V.bipush (pc := 13) C dX9_readsFor_13 (v := (60 : Int32)) (by decide) ?_
  refine V.icmp_ge (pc := 15) (t := 47) C dX9_readsFor_15 (by decide) (fun c10 => ?_) (fun c10 => ?_)
  · replace hf := ite_t c10 hf
    refine V.sub (L' := [(0, .ref a0)]) [0] rfl ?_
    exact bX9_readsFor_47 C  hf
  replace hf := ite_f c10 hf
  refine V.aload_n (pc := 18) C dX9_readsFor_18 0 rfl ?_
  replace hf := ob_some hf
  obtain ⟨p11, h12, hf⟩ := hf
  refine V.getR (pc := 19) C kX9 (k := 21) (by decide) wd_1071 h12 dX9_readsFor_19 ?_
  refine V.iconst (pc := 22) C dX9_readsFor_22 (v := (2 : Int32)) (by decide) ?_
  refine V.aload_n (pc := 23) C dX9_readsFor_23 0 rfl ?_
  replace hf := ob_some hf
  obtain ⟨x13, h14, hf⟩ := hf
  refine V.getI (pc := 24) C kX9 (k := 20) (by decide) wd_1070 h14 dX9_readsFor_24 ?_
  refine V.imul (pc := 27) C dX9_readsFor_27 ?_
  refine V.aload_n (pc := 28) C dX9_readsFor_28 0 rfl ?_
  replace hf := ob_some hf
  obtain ⟨x15, h16, hf⟩ := hf
  refine V.getI (pc := 29) C kX9 (k := 22) (by decide) wd_1072 h16 dX9_readsFor_29 ?_
  replace hf := ob_some hf
  obtain ⟨g17, h18, hf⟩ := hf
  refine V.iast (pc := 32) C h18 dX9_readsFor_32 ?_
  refine V.aload_n (pc := 33) C dX9_readsFor_33 0 rfl ?_
  replace hf := ob_some hf
  obtain ⟨p19, h20, hf⟩ := hf
  refine V.getR (pc := 34) C kX9 (k := 21) (by decide) wd_1071 h20 dX9_readsFor_34 ?_
  refine V.iconst (pc := 37) C dX9_readsFor_37 (v := (2 : Int32)) (by decide) ?_
  refine V.aload_n (pc := 38) C dX9_readsFor_38 0 rfl ?_
  replace hf := ob_some hf
  obtain ⟨x21, h22, hf⟩ := hf
  refine V.getI (pc := 39) C kX9 (k := 20) (by decide) wd_1070 h22 dX9_readsFor_39 ?_
  refine V.imul (pc := 42) C dX9_readsFor_42 ?_
  refine V.iconst (pc := 43) C dX9_readsFor_43 (v := (1 : Int32)) (by decide) ?_
  refine V.iadd (pc := 44) C dX9_readsFor_44 ?_
  refine V.iload_n (pc := 45) C dX9_readsFor_45 1 rfl ?_
  replace hf := ob_some hf
  obtain ⟨g23, h24, hf⟩ := hf
  refine V.iast (pc := 46) C h24 dX9_readsFor_46 ?_
  refine V.sub (L' := [(0, .ref a0)]) [0] rfl ?_
  exact bX9_readsFor_47 C  hf
theorem dX9_opAt_0 : decode cX9_opAt 0 = .ok (.iload_n 2, 1) := by decide +kernel
theorem dX9_opAt_1 : decode cX9_opAt 1 = .ok (.iconst 2, 1) := by decide +kernel
theorem dX9_opAt_2 : decode cX9_opAt 2 = .ok (.if_icmp .ge 12, 3) := by decide +kernel
theorem dX9_opAt_5 : decode cX9_opAt 5 = .ok (.aload_n 0, 1) := by decide +kernel
theorem dX9_opAt_6 : decode cX9_opAt 6 = .ok (.iload_n 1, 1) := by decide +kernel
theorem dX9_opAt_7 : decode cX9_opAt 7 = .ok (.iload_n 2, 1) := by decide +kernel
theorem dX9_opAt_8 : decode cX9_opAt 8 = .ok (.invokevirtual 228, 3) := by decide +kernel
theorem dX9_opAt_11 : decode cX9_opAt 11 = .ok (.goto 11, 3) := by decide +kernel
theorem dX9_opAt_14 : decode cX9_opAt 14 = .ok (.aload_n 0, 1) := by decide +kernel
theorem dX9_opAt_15 : decode cX9_opAt 15 = .ok (.iload_n 1, 1) := by decide +kernel
theorem dX9_opAt_16 : decode cX9_opAt 16 = .ok (.iload_n 2, 1) := by decide +kernel
theorem dX9_opAt_17 : decode cX9_opAt 17 = .ok (.iconst 2, 1) := by decide +kernel
theorem dX9_opAt_18 : decode cX9_opAt 18 = .ok (.isub, 1) := by decide +kernel
theorem dX9_opAt_19 : decode cX9_opAt 19 = .ok (.invokevirtual 231, 3) := by decide +kernel
theorem dX9_opAt_22 : decode cX9_opAt 22 = .ok (.return_, 1) := by decide +kernel
def fX9_opAt (g : PH) (a0 : Nat) (a1 : Int32) (a2 : Int32) : Option (Unit × PH) :=
  okb (isO g a0 9) (if (2 : Int32) ≤ a2 then ((fX9_writesAt g a0 a1 (a2 - (2 : Int32))).bind fun q2 =>
  (some ((), q2.2))) else
  ((fX9_readsFor g a0 a1 a2).bind fun q4 =>
  (some ((), q4.2))))
theorem oX9_opAt {g : PH} {a0 : Nat} {a1 : Int32} {a2 : Int32} {q : (Unit × PH)} (h : fX9_opAt g a0 a1 a2 = some q) : isO g a0 9 = true := by unfold fX9_opAt at h; exact (okb_some h).1
theorem hyX9_opAt : hMet yX9_opAt RX9 cX9_opAt 3 none 2 := ⟨wd_1359, wd_1358, ws_84, wd_7, rfl, by decide +kernel, by decide +kernel, by decide +kernel⟩
set_option maxHeartbeats 4000000 in
set_option maxRecDepth 100000 in
theorem mX9_opAt (l : Launch) (E : HE) (sz : Nat) {g g' : PH} {a0 : Nat} {a1 : Int32} {a2 : Int32} {r : Unit} (hf : fX9_opAt g a0 a1 a2 = some (r, g')) : hM l E yX9_opAt cX9_opAt 3 none 6 143 0 0 sz g [.ref a0, .int a1, .int a2] none g' := by
  refine hM.of (by decide) (Nat.le_of_ble_eq_true rfl) (fun K hl C hin hsz => ?_)
  subst hl
  subst hsz
  have C : VC K E 3 cX9_opAt RX9 none := C
  unfold fX9_opAt at hf
  replace hf := okb_some hf
  obtain ⟨ho, hf⟩ := hf
  refine V.start (L' := [(0, .ref a0), (1, .int a1), (2, .int a2)]) rfl ?_
  refine V.iload_n (pc := 0) C dX9_opAt_0 2 rfl ?_
  refine V.iconst (pc := 1) C dX9_opAt_1 (v := (2 : Int32)) (by decide) ?_
  refine V.icmp_ge (pc := 2) (t := 14) C dX9_opAt_2 (by decide) (fun c1 => ?_) (fun c1 => ?_)
  · replace hf := ite_t c1 hf
    refine V.aload_n (pc := 14) C dX9_opAt_14 0 rfl ?_
    refine V.iload_n (pc := 15) C dX9_opAt_15 1 rfl ?_
    refine V.iload_n (pc := 16) C dX9_opAt_16 2 rfl ?_
    refine V.iconst (pc := 17) C dX9_opAt_17 (v := (2 : Int32)) (by decide) ?_
    refine V.isub (pc := 18) C dX9_opAt_18 ?_
    replace hf := ob_some hf
    obtain ⟨q2, h3, hf⟩ := hf
    refine V.callV0v (pc := 19) C hyX9_writesAt wd_1380 (mX9_writesAt (r := q2.1) (g' := q2.2) K.2.1 E (kS K) h3) rfl rfl rfl (oX9_writesAt h3) ⟨Nat.le_of_ble_eq_true rfl, Nat.le_of_ble_eq_true rfl⟩ (Nat.le_of_ble_eq_true rfl) dX9_opAt_19 ⟨Nat.zero_le _, Nat.zero_le _⟩ rfl ?_
    obtain ⟨f1, f2⟩ := fin2 hf
    clear hf
    subst f1
    subst f2
    exact V.vret (pc := 22) C rfl dX9_opAt_22
  replace hf := ite_f c1 hf
  refine V.aload_n (pc := 5) C dX9_opAt_5 0 rfl ?_
  refine V.iload_n (pc := 6) C dX9_opAt_6 1 rfl ?_
  refine V.iload_n (pc := 7) C dX9_opAt_7 2 rfl ?_
  replace hf := ob_some hf
  obtain ⟨q4, h5, hf⟩ := hf
  refine V.callV0v (pc := 8) C hyX9_readsFor wd_1360 (mX9_readsFor (r := q4.1) (g' := q4.2) K.2.1 E (kS K) h5) rfl rfl rfl (oX9_readsFor h5) ⟨Nat.le_of_ble_eq_true rfl, Nat.le_of_ble_eq_true rfl⟩ (Nat.le_of_ble_eq_true rfl) dX9_opAt_8 ⟨Nat.zero_le _, Nat.zero_le _⟩ rfl ?_
  refine V.goto (pc := 11) (t := 22) C dX9_opAt_11 (by decide) ?_
  obtain ⟨f1, f2⟩ := fin2 hf
  clear hf
  subst f1
  subst f2
  exact V.vret (pc := 22) C rfl dX9_opAt_22
theorem dX9_goesThrough_0 : decode cX9_goesThrough 0 = .ok (.aload_n 0, 1) := by decide +kernel
theorem dX9_goesThrough_1 : decode cX9_goesThrough 1 = .ok (.iconst 0, 1) := by decide +kernel
theorem dX9_goesThrough_2 : decode cX9_goesThrough 2 = .ok (.putfield 222, 3) := by decide +kernel
theorem dX9_goesThrough_5 : decode cX9_goesThrough 5 = .ok (.aload_n 0, 1) := by decide +kernel
theorem dX9_goesThrough_6 : decode cX9_goesThrough 6 = .ok (.iconst 0, 1) := by decide +kernel
theorem dX9_goesThrough_7 : decode cX9_goesThrough 7 = .ok (.putfield 225, 3) := by decide +kernel
theorem dX9_goesThrough_10 : decode cX9_goesThrough 10 = .ok (.iconst 0, 1) := by decide +kernel
theorem dX9_goesThrough_11 : decode cX9_goesThrough 11 = .ok (.istore_n 3, 1) := by decide +kernel
theorem dX9_goesThrough_12 : decode cX9_goesThrough 12 = .ok (.iconst 0, 1) := by decide +kernel
theorem dX9_goesThrough_13 : decode cX9_goesThrough 13 = .ok (.istore 4, 2) := by decide +kernel
theorem dX9_goesThrough_15 : decode cX9_goesThrough 15 = .ok (.iload 4, 2) := by decide +kernel
theorem dX9_goesThrough_17 : decode cX9_goesThrough 17 = .ok (.aload_n 0, 1) := by decide +kernel
theorem dX9_goesThrough_18 : decode cX9_goesThrough 18 = .ok (.getfield 23, 3) := by decide +kernel
theorem dX9_goesThrough_21 : decode cX9_goesThrough 21 = .ok (.iload_n 1, 1) := by decide +kernel
theorem dX9_goesThrough_22 : decode cX9_goesThrough 22 = .ok (.iaload, 1) := by decide +kernel
theorem dX9_goesThrough_23 : decode cX9_goesThrough 23 = .ok (.if_icmp .ge 109, 3) := by decide +kernel
theorem dX9_goesThrough_26 : decode cX9_goesThrough 26 = .ok (.aload_n 0, 1) := by decide +kernel
theorem dX9_goesThrough_27 : decode cX9_goesThrough 27 = .ok (.iload_n 1, 1) := by decide +kernel
theorem dX9_goesThrough_28 : decode cX9_goesThrough 28 = .ok (.iload 4, 2) := by decide +kernel
theorem dX9_goesThrough_30 : decode cX9_goesThrough 30 = .ok (.iconst 0, 1) := by decide +kernel
theorem dX9_goesThrough_31 : decode cX9_goesThrough 31 = .ok (.invokevirtual 177, 3) := by decide +kernel
theorem dX9_goesThrough_34 : decode cX9_goesThrough 34 = .ok (.istore 5, 2) := by decide +kernel
theorem dX9_goesThrough_36 : decode cX9_goesThrough 36 = .ok (.iload 5, 2) := by decide +kernel
theorem dX9_goesThrough_38 : decode cX9_goesThrough 38 = .ok (.iconst 2, 1) := by decide +kernel
theorem dX9_goesThrough_39 : decode cX9_goesThrough 39 = .ok (.if_icmp .ne 13, 3) := by decide +kernel
theorem dX9_goesThrough_42 : decode cX9_goesThrough 42 = .ok (.iload_n 2, 1) := by decide +kernel
theorem dX9_goesThrough_43 : decode cX9_goesThrough 43 = .ok (.iload_n 3, 1) := by decide +kernel
theorem dX9_goesThrough_44 : decode cX9_goesThrough 44 = .ok (.ishr, 1) := by decide +kernel
theorem dX9_goesThrough_45 : decode cX9_goesThrough 45 = .ok (.iconst 1, 1) := by decide +kernel
theorem dX9_goesThrough_46 : decode cX9_goesThrough 46 = .ok (.iand, 1) := by decide +kernel
theorem dX9_goesThrough_47 : decode cX9_goesThrough 47 = .ok (.istore 5, 2) := by decide +kernel
theorem dX9_goesThrough_49 : decode cX9_goesThrough 49 = .ok (.iinc 3 1, 3) := by decide +kernel
theorem dX9_goesThrough_52 : decode cX9_goesThrough 52 = .ok (.iconst 0, 1) := by decide +kernel
theorem dX9_goesThrough_53 : decode cX9_goesThrough 53 = .ok (.istore 6, 2) := by decide +kernel
theorem dX9_goesThrough_55 : decode cX9_goesThrough 55 = .ok (.iload 6, 2) := by decide +kernel
theorem dX9_goesThrough_57 : decode cX9_goesThrough 57 = .ok (.aload_n 0, 1) := by decide +kernel
theorem dX9_goesThrough_58 : decode cX9_goesThrough 58 = .ok (.getfield 180, 3) := by decide +kernel
theorem dX9_goesThrough_61 : decode cX9_goesThrough 61 = .ok (.if_icmp .ge 65, 3) := by decide +kernel
theorem dX9_goesThrough_64 : decode cX9_goesThrough 64 = .ok (.iconst 0, 1) := by decide +kernel
theorem dX9_goesThrough_65 : decode cX9_goesThrough 65 = .ok (.istore 7, 2) := by decide +kernel
theorem dX9_goesThrough_67 : decode cX9_goesThrough 67 = .ok (.iload 7, 2) := by decide +kernel
theorem dX9_goesThrough_69 : decode cX9_goesThrough 69 = .ok (.aload_n 0, 1) := by decide +kernel
theorem dX9_goesThrough_70 : decode cX9_goesThrough 70 = .ok (.iload_n 1, 1) := by decide +kernel
theorem dX9_goesThrough_71 : decode cX9_goesThrough 71 = .ok (.iload 4, 2) := by decide +kernel
theorem dX9_goesThrough_73 : decode cX9_goesThrough 73 = .ok (.iconst 1, 1) := by decide +kernel
theorem dX9_goesThrough_74 : decode cX9_goesThrough 74 = .ok (.invokevirtual 177, 3) := by decide +kernel
theorem dX9_goesThrough_77 : decode cX9_goesThrough 77 = .ok (.if_icmp .ge 43, 3) := by decide +kernel
theorem dX9_goesThrough_80 : decode cX9_goesThrough 80 = .ok (.aload_n 0, 1) := by decide +kernel
theorem dX9_goesThrough_81 : decode cX9_goesThrough 81 = .ok (.iload 5, 2) := by decide +kernel
theorem dX9_goesThrough_83 : decode cX9_goesThrough 83 = .ok (.ifCond .ne 8, 3) := by decide +kernel
theorem dX9_goesThrough_86 : decode cX9_goesThrough 86 = .ok (.iload 6, 2) := by decide +kernel
theorem dX9_goesThrough_88 : decode cX9_goesThrough 88 = .ok (.goto 12, 3) := by decide +kernel
theorem dX9_goesThrough_91 : decode cX9_goesThrough 91 = .ok (.aload_n 0, 1) := by decide +kernel
theorem dX9_goesThrough_92 : decode cX9_goesThrough 92 = .ok (.getfield 180, 3) := by decide +kernel
theorem dX9_goesThrough_95 : decode cX9_goesThrough 95 = .ok (.iconst 1, 1) := by decide +kernel
theorem dX9_goesThrough_96 : decode cX9_goesThrough 96 = .ok (.isub, 1) := by decide +kernel
theorem dX9_goesThrough_97 : decode cX9_goesThrough 97 = .ok (.iload 6, 2) := by decide +kernel
theorem dX9_goesThrough_99 : decode cX9_goesThrough 99 = .ok (.isub, 1) := by decide +kernel
theorem dX9_goesThrough_100 : decode cX9_goesThrough 100 = .ok (.aload_n 0, 1) := by decide +kernel
theorem dX9_goesThrough_101 : decode cX9_goesThrough 101 = .ok (.iload_n 1, 1) := by decide +kernel
theorem dX9_goesThrough_102 : decode cX9_goesThrough 102 = .ok (.iload 4, 2) := by decide +kernel
theorem dX9_goesThrough_104 : decode cX9_goesThrough 104 = .ok (.iconst 2, 1) := by decide +kernel
theorem dX9_goesThrough_105 : decode cX9_goesThrough 105 = .ok (.iload 7, 2) := by decide +kernel
theorem dX9_goesThrough_107 : decode cX9_goesThrough 107 = .ok (.iadd, 1) := by decide +kernel
theorem dX9_goesThrough_108 : decode cX9_goesThrough 108 = .ok (.invokevirtual 177, 3) := by decide +kernel
theorem dX9_goesThrough_111 : decode cX9_goesThrough 111 = .ok (.invokevirtual 234, 3) := by decide +kernel
theorem dX9_goesThrough_114 : decode cX9_goesThrough 114 = .ok (.iinc 7 1, 3) := by decide +kernel
theorem dX9_goesThrough_117 : decode cX9_goesThrough 117 = .ok (.goto (-50), 3) := by decide +kernel
theorem dX9_goesThrough_120 : decode cX9_goesThrough 120 = .ok (.iinc 6 1, 3) := by decide +kernel
theorem dX9_goesThrough_123 : decode cX9_goesThrough 123 = .ok (.goto (-68), 3) := by decide +kernel
theorem dX9_goesThrough_126 : decode cX9_goesThrough 126 = .ok (.iinc 4 1, 3) := by decide +kernel
theorem dX9_goesThrough_129 : decode cX9_goesThrough 129 = .ok (.goto (-114), 3) := by decide +kernel
theorem dX9_goesThrough_132 : decode cX9_goesThrough 132 = .ok (.return_, 1) := by decide +kernel
def fX9_goesThrough_100 (k15 : PH → Nat → Int32 → Int32 → Int32 → Int32 → Option (Unit × PH)) (k55 : PH → Nat → Int32 → Int32 → Int32 → Int32 → Int32 → Int32 → Option (Unit × PH)) (k67 : PH → Nat → Int32 → Int32 → Int32 → Int32 → Int32 → Int32 → Int32 → Option (Unit × PH)) (g : PH) (v0 : Nat) (v1 : Int32) (v2 : Int32) (v3 : Int32) (v4 : Int32) (v5 : Int32) (v6 : Int32) (v7 : Int32) (s0 : Int32) (s1 : Nat) : Option (Unit × PH) :=
  (fX9_elementAt g v0 v1 v4 ((2 : Int32) + v7)).bind fun q1 =>
  ((fX9_opAt q1.2 s1 s0 q1.1).bind fun q3 =>
  (k67 q3.2 v0 v1 v2 v3 v4 v5 v6 (v7 + (1 : Int32))))
set_option maxHeartbeats 4000000 in
set_option maxRecDepth 100000 in
theorem bX9_goesThrough_100 {K : HK} {E : HE} {r : Unit} {g' : PH} {k15 : PH → Nat → Int32 → Int32 → Int32 → Int32 → Option (Unit × PH)} {k55 : PH → Nat → Int32 → Int32 → Int32 → Int32 → Int32 → Int32 → Option (Unit × PH)} {k67 : PH → Nat → Int32 → Int32 → Int32 → Int32 → Int32 → Int32 → Int32 → Option (Unit × PH)} (C : VC K E 8 cX9_goesThrough RX9 none) (hk15 : ∀ (g : PH) (v0 : Nat) (v1 : Int32) (v2 : Int32) (v3 : Int32) (v4 : Int32), k15 g v0 v1 v2 v3 v4 = some (r, g') → V K E (hRm 7 165 0 0) 8 (hZ K E none g' 0 0) 0 0 (kS K) g 15 [(0, .ref v0), (1, .int v1), (2, .int v2), (3, .int v3), (4, .int v4)] []) (hk55 : ∀ (g : PH) (v0 : Nat) (v1 : Int32) (v2 : Int32) (v3 : Int32) (v4 : Int32) (v5 : Int32) (v6 : Int32), k55 g v0 v1 v2 v3 v4 v5 v6 = some (r, g') → V K E (hRm 7 165 0 0) 8 (hZ K E none g' 0 0) 0 0 (kS K) g 55 [(0, .ref v0), (1, .int v1), (2, .int v2), (3, .int v3), (4, .int v4), (5, .int v5), (6, .int v6)] []) (hk67 : ∀ (g : PH) (v0 : Nat) (v1 : Int32) (v2 : Int32) (v3 : Int32) (v4 : Int32) (v5 : Int32) (v6 : Int32) (v7 : Int32), k67 g v0 v1 v2 v3 v4 v5 v6 v7 = some (r, g') → V K E (hRm 7 165 0 0) 8 (hZ K E none g' 0 0) 0 0 (kS K) g 67 [(0, .ref v0), (1, .int v1), (2, .int v2), (3, .int v3), (4, .int v4), (5, .int v5), (6, .int v6), (7, .int v7)] []) {g : PH} {v0 : Nat} {v1 : Int32} {v2 : Int32} {v3 : Int32} {v4 : Int32} {v5 : Int32} {v6 : Int32} {v7 : Int32} {s0 : Int32} {s1 : Nat} (hf : fX9_goesThrough_100 k15 k55 k67 g v0 v1 v2 v3 v4 v5 v6 v7 s0 s1 = some (r, g')) : V K E (hRm 7 165 0 0) 8 (hZ K E none g' 0 0) 0 0 (kS K) g 100 [(0, .ref v0), (1, .int v1), (2, .int v2), (3, .int v3), (4, .int v4), (5, .int v5), (6, .int v6), (7, .int v7)] [.int s0, .ref s1] := by
  unfold fX9_goesThrough_100 at hf
  refine V.aload_n (pc := 100) C dX9_goesThrough_100 0 rfl ?_
  refine V.iload_n (pc := 101) C dX9_goesThrough_101 1 rfl ?_
  refine V.iload (pc := 102) C dX9_goesThrough_102 4 rfl ?_
  refine V.iconst (pc := 104) C dX9_goesThrough_104 (v := (2 : Int32)) (by decide) ?_
  refine V.iload (pc := 105) C dX9_goesThrough_105 7 rfl ?_
  refine V.iadd (pc := 107) C dX9_goesThrough_107 ?_
  replace hf := ob_some hf
  obtain ⟨q1, h2, hf⟩ := hf
  refine V.callV0i (pc := 108) C hyX9_elementAt wd_1292 (mX9_elementAt (r := q1.1) (g' := q1.2) K.2.1 E (kS K) h2) rfl rfl rfl (oX9_elementAt h2) ⟨Nat.le_of_ble_eq_true rfl, Nat.le_of_ble_eq_true rfl⟩ (Nat.le_of_ble_eq_true rfl) dX9_goesThrough_108 ⟨Nat.zero_le _, Nat.zero_le _⟩ rfl ?_
  replace hf := ob_some hf
  obtain ⟨q3, h4, hf⟩ := hf
  refine V.callV0v (pc := 111) C hyX9_opAt wd_1356 (mX9_opAt (r := q3.1) (g' := q3.2) K.2.1 E (kS K) h4) rfl rfl rfl (oX9_opAt h4) ⟨Nat.le_of_ble_eq_true rfl, Nat.le_of_ble_eq_true rfl⟩ (Nat.le_of_ble_eq_true rfl) dX9_goesThrough_111 ⟨Nat.zero_le _, Nat.zero_le _⟩ rfl ?_
  refine V.iinc (pc := 114) (v := (v7 + (1 : Int32))) (L' := [(7, .int (v7 + (1 : Int32))), (0, .ref v0), (1, .int v1), (2, .int v2), (3, .int v3), (4, .int v4), (5, .int v5), (6, .int v6)]) C dX9_goesThrough_114 7 rfl rfl (by decide) rfl ?_
  refine V.goto (pc := 117) (t := 67) C dX9_goesThrough_117 (by decide) ?_
  refine V.sub (L' := [(0, .ref v0), (1, .int v1), (2, .int v2), (3, .int v3), (4, .int v4), (5, .int v5), (6, .int v6), (7, .int (v7 + (1 : Int32)))]) [1, 2, 3, 4, 5, 6, 7, 0] rfl ?_
  exact hk67 _ _ _ _ _ _ _ _ _ hf
def fX9_goesThrough_67 (k15 : PH → Nat → Int32 → Int32 → Int32 → Int32 → Option (Unit × PH)) (k55 : PH → Nat → Int32 → Int32 → Int32 → Int32 → Int32 → Int32 → Option (Unit × PH)) : Nat → PH → Nat → Int32 → Int32 → Int32 → Int32 → Int32 → Int32 → Int32 → Option (Unit × PH)
  | 0, _, _, _, _, _, _, _, _, _ => none
  | n + 1, g, v0, v1, v2, v3, v4, v5, v6, v7 =>
  (fX9_elementAt g v0 v1 v4 (1 : Int32)).bind fun q1 =>
  (if q1.1 ≤ v7 then (k55 q1.2 v0 v1 v2 v3 v4 v5 (v6 + (1 : Int32))) else
  (if v5 = 0 then (fX9_goesThrough_100 (k15) (k55) (fX9_goesThrough_67 k15 k55 n) q1.2 v0 v1 v2 v3 v4 v5 v6 v7 v6 v0) else
  ((getI q1.2 v0 9 15).bind fun x5 =>
  (fX9_goesThrough_100 (k15) (k55) (fX9_goesThrough_67 k15 k55 n) q1.2 v0 v1 v2 v3 v4 v5 v6 v7 ((x5 - (1 : Int32)) - v6) v0))))
set_option maxHeartbeats 4000000 in
set_option maxRecDepth 100000 in
theorem bX9_goesThrough_67 {K : HK} {E : HE} {r : Unit} {g' : PH} {k15 : PH → Nat → Int32 → Int32 → Int32 → Int32 → Option (Unit × PH)} {k55 : PH → Nat → Int32 → Int32 → Int32 → Int32 → Int32 → Int32 → Option (Unit × PH)} (C : VC K E 8 cX9_goesThrough RX9 none) (hk15 : ∀ (g : PH) (v0 : Nat) (v1 : Int32) (v2 : Int32) (v3 : Int32) (v4 : Int32), k15 g v0 v1 v2 v3 v4 = some (r, g') → V K E (hRm 7 165 0 0) 8 (hZ K E none g' 0 0) 0 0 (kS K) g 15 [(0, .ref v0), (1, .int v1), (2, .int v2), (3, .int v3), (4, .int v4)] []) (hk55 : ∀ (g : PH) (v0 : Nat) (v1 : Int32) (v2 : Int32) (v3 : Int32) (v4 : Int32) (v5 : Int32) (v6 : Int32), k55 g v0 v1 v2 v3 v4 v5 v6 = some (r, g') → V K E (hRm 7 165 0 0) 8 (hZ K E none g' 0 0) 0 0 (kS K) g 55 [(0, .ref v0), (1, .int v1), (2, .int v2), (3, .int v3), (4, .int v4), (5, .int v5), (6, .int v6)] []) : ∀ (n : Nat) (g : PH) (v0 : Nat) (v1 : Int32) (v2 : Int32) (v3 : Int32) (v4 : Int32) (v5 : Int32) (v6 : Int32) (v7 : Int32), fX9_goesThrough_67 k15 k55 n g v0 v1 v2 v3 v4 v5 v6 v7 = some (r, g') → V K E (hRm 7 165 0 0) 8 (hZ K E none g' 0 0) 0 0 (kS K) g 67 [(0, .ref v0), (1, .int v1), (2, .int v2), (3, .int v3), (4, .int v4), (5, .int v5), (6, .int v6), (7, .int v7)] [] := by
  intro n
  induction n with
  | zero =>
    intro g v0 v1 v2 v3 v4 v5 v6 v7 hf
    rw [fX9_goesThrough_67] at hf
    cases hf
  | succ n ih =>
    intro g v0 v1 v2 v3 v4 v5 v6 v7 hf
    rw [fX9_goesThrough_67] at hf
    refine V.iload (pc := 67) C dX9_goesThrough_67 7 rfl ?_
    refine V.aload_n (pc := 69) C dX9_goesThrough_69 0 rfl ?_
    refine V.iload_n (pc := 70) C dX9_goesThrough_70 1 rfl ?_
    refine V.iload (pc := 71) C dX9_goesThrough_71 4 rfl ?_
    refine V.iconst (pc := 73) C dX9_goesThrough_73 (v := (1 : Int32)) (by decide) ?_
    replace hf := ob_some hf
    obtain ⟨q1, h2, hf⟩ := hf
    refine V.callV0i (pc := 74) C hyX9_elementAt wd_1292 (mX9_elementAt (r := q1.1) (g' := q1.2) K.2.1 E (kS K) h2) rfl rfl rfl (oX9_elementAt h2) ⟨Nat.le_of_ble_eq_true rfl, Nat.le_of_ble_eq_true rfl⟩ (Nat.le_of_ble_eq_true rfl) dX9_goesThrough_74 ⟨Nat.zero_le _, Nat.zero_le _⟩ rfl ?_
    refine V.icmp_ge (pc := 77) (t := 120) C dX9_goesThrough_77 (by decide) (fun c3 => ?_) (fun c3 => ?_)
    · replace hf := ite_t c3 hf
      refine V.iinc (pc := 120) (v := (v6 + (1 : Int32))) (L' := [(6, .int (v6 + (1 : Int32))), (0, .ref v0), (1, .int v1), (2, .int v2), (3, .int v3), (4, .int v4), (5, .int v5), (7, .int v7)]) C dX9_goesThrough_120 6 rfl rfl (by decide) rfl ?_
      refine V.goto (pc := 123) (t := 55) C dX9_goesThrough_123 (by decide) ?_
      refine V.sub (L' := [(0, .ref v0), (1, .int v1), (2, .int v2), (3, .int v3), (4, .int v4), (5, .int v5), (6, .int (v6 + (1 : Int32)))]) [1, 2, 3, 4, 5, 6, 0] rfl ?_
      exact hk55 _ _ _ _ _ _ _ _ hf
    replace hf := ite_f c3 hf
    refine V.aload_n (pc := 80) C dX9_goesThrough_80 0 rfl ?_
    refine V.iload (pc := 81) C dX9_goesThrough_81 5 rfl ?_
    refine V.if_ne (pc := 83) (t := 91) C dX9_goesThrough_83 (by decide) (fun c4 => ?_) (fun c4 => ?_)
    · replace hf := ite_f c4 hf
      refine V.aload_n (pc := 91) C dX9_goesThrough_91 0 rfl ?_
      replace hf := ob_some hf
      obtain ⟨x5, h6, hf⟩ := hf
      refine V.getI (pc := 92) C kX9 (k := 15) (by decide) wd_1065 h6 dX9_goesThrough_92 ?_
      refine V.iconst (pc := 95) C dX9_goesThrough_95 (v := (1 : Int32)) (by decide) ?_
      refine V.isub (pc := 96) C dX9_goesThrough_96 ?_
      refine V.iload (pc := 97) C dX9_goesThrough_97 6 rfl ?_
      refine V.isub (pc := 99) C dX9_goesThrough_99 ?_
      refine V.sub (L' := [(0, .ref v0), (1, .int v1), (2, .int v2), (3, .int v3), (4, .int v4), (5, .int v5), (6, .int v6), (7, .int v7)]) [0, 1, 2, 3, 4, 5, 6, 7] rfl ?_
      exact bX9_goesThrough_100 C hk15 hk55 ih hf
    replace hf := ite_t c4 hf
    refine V.iload (pc := 86) C dX9_goesThrough_86 6 rfl ?_
    refine V.goto (pc := 88) (t := 100) C dX9_goesThrough_88 (by decide) ?_
    refine V.sub (L' := [(0, .ref v0), (1, .int v1), (2, .int v2), (3, .int v3), (4, .int v4), (5, .int v5), (6, .int v6), (7, .int v7)]) [0, 1, 2, 3, 4, 5, 6, 7] rfl ?_
    exact bX9_goesThrough_100 C hk15 hk55 ih hf
def fX9_goesThrough_55 (k15 : PH → Nat → Int32 → Int32 → Int32 → Int32 → Option (Unit × PH)) : Nat → PH → Nat → Int32 → Int32 → Int32 → Int32 → Int32 → Int32 → Option (Unit × PH)
  | 0, _, _, _, _, _, _, _, _ => none
  | n + 1, g, v0, v1, v2, v3, v4, v5, v6 =>
  (getI g v0 9 15).bind fun x1 =>
  (if x1 ≤ v6 then (k15 g v0 v1 v2 v3 (v4 + (1 : Int32))) else
  (fX9_goesThrough_67 (k15) (fX9_goesThrough_55 k15 n) FUEL g v0 v1 v2 v3 v4 v5 v6 (0 : Int32)))
set_option maxHeartbeats 4000000 in
set_option maxRecDepth 100000 in
theorem bX9_goesThrough_55 {K : HK} {E : HE} {r : Unit} {g' : PH} {k15 : PH → Nat → Int32 → Int32 → Int32 → Int32 → Option (Unit × PH)} (C : VC K E 8 cX9_goesThrough RX9 none) (hk15 : ∀ (g : PH) (v0 : Nat) (v1 : Int32) (v2 : Int32) (v3 : Int32) (v4 : Int32), k15 g v0 v1 v2 v3 v4 = some (r, g') → V K E (hRm 7 165 0 0) 8 (hZ K E none g' 0 0) 0 0 (kS K) g 15 [(0, .ref v0), (1, .int v1), (2, .int v2), (3, .int v3), (4, .int v4)] []) : ∀ (n : Nat) (g : PH) (v0 : Nat) (v1 : Int32) (v2 : Int32) (v3 : Int32) (v4 : Int32) (v5 : Int32) (v6 : Int32), fX9_goesThrough_55 k15 n g v0 v1 v2 v3 v4 v5 v6 = some (r, g') → V K E (hRm 7 165 0 0) 8 (hZ K E none g' 0 0) 0 0 (kS K) g 55 [(0, .ref v0), (1, .int v1), (2, .int v2), (3, .int v3), (4, .int v4), (5, .int v5), (6, .int v6)] [] := by
  intro n
  induction n with
  | zero =>
    intro g v0 v1 v2 v3 v4 v5 v6 hf
    rw [fX9_goesThrough_55] at hf
    cases hf
  | succ n ih =>
    intro g v0 v1 v2 v3 v4 v5 v6 hf
    rw [fX9_goesThrough_55] at hf
    refine V.iload (pc := 55) C dX9_goesThrough_55 6 rfl ?_
    refine V.aload_n (pc := 57) C dX9_goesThrough_57 0 rfl ?_
    replace hf := ob_some hf
    obtain ⟨x1, h2, hf⟩ := hf
    refine V.getI (pc := 58) C kX9 (k := 15) (by decide) wd_1065 h2 dX9_goesThrough_58 ?_
    refine V.icmp_ge (pc := 61) (t := 126) C dX9_goesThrough_61 (by decide) (fun c3 => ?_) (fun c3 => ?_)
    · replace hf := ite_t c3 hf
      refine V.iinc (pc := 126) (v := (v4 + (1 : Int32))) (L' := [(4, .int (v4 + (1 : Int32))), (0, .ref v0), (1, .int v1), (2, .int v2), (3, .int v3), (5, .int v5), (6, .int v6)]) C dX9_goesThrough_126 4 rfl rfl (by decide) rfl ?_
      refine V.goto (pc := 129) (t := 15) C dX9_goesThrough_129 (by decide) ?_
      refine V.sub (L' := [(0, .ref v0), (1, .int v1), (2, .int v2), (3, .int v3), (4, .int (v4 + (1 : Int32)))]) [1, 2, 3, 4, 0] rfl ?_
      exact hk15 _ _ _ _ _ _ hf
    replace hf := ite_f c3 hf
    refine V.iconst (pc := 64) C dX9_goesThrough_64 (v := (0 : Int32)) (by decide) ?_
    refine V.istore (pc := 65) (L' := [(7, .int (0 : Int32)), (0, .ref v0), (1, .int v1), (2, .int v2), (3, .int v3), (4, .int v4), (5, .int v5), (6, .int v6)]) C dX9_goesThrough_65 (by decide) rfl ?_
    refine V.sub (L' := [(0, .ref v0), (1, .int v1), (2, .int v2), (3, .int v3), (4, .int v4), (5, .int v5), (6, .int v6), (7, .int (0 : Int32))]) [1, 2, 3, 4, 5, 6, 7, 0] rfl ?_
    exact bX9_goesThrough_67 C hk15 ih _ _ _ _ _ _ _ _ _ _ hf
def fX9_goesThrough_52 (k15 : PH → Nat → Int32 → Int32 → Int32 → Int32 → Option (Unit × PH)) (g : PH) (v0 : Nat) (v1 : Int32) (v2 : Int32) (v3 : Int32) (v4 : Int32) (v5 : Int32) : Option (Unit × PH) :=
  fX9_goesThrough_55 (k15) FUEL g v0 v1 v2 v3 v4 v5 (0 : Int32)
set_option maxHeartbeats 4000000 in
set_option maxRecDepth 100000 in
theorem bX9_goesThrough_52 {K : HK} {E : HE} {r : Unit} {g' : PH} {k15 : PH → Nat → Int32 → Int32 → Int32 → Int32 → Option (Unit × PH)} (C : VC K E 8 cX9_goesThrough RX9 none) (hk15 : ∀ (g : PH) (v0 : Nat) (v1 : Int32) (v2 : Int32) (v3 : Int32) (v4 : Int32), k15 g v0 v1 v2 v3 v4 = some (r, g') → V K E (hRm 7 165 0 0) 8 (hZ K E none g' 0 0) 0 0 (kS K) g 15 [(0, .ref v0), (1, .int v1), (2, .int v2), (3, .int v3), (4, .int v4)] []) {g : PH} {v0 : Nat} {v1 : Int32} {v2 : Int32} {v3 : Int32} {v4 : Int32} {v5 : Int32} (hf : fX9_goesThrough_52 k15 g v0 v1 v2 v3 v4 v5 = some (r, g')) : V K E (hRm 7 165 0 0) 8 (hZ K E none g' 0 0) 0 0 (kS K) g 52 [(0, .ref v0), (1, .int v1), (2, .int v2), (3, .int v3), (4, .int v4), (5, .int v5)] [] := by
  unfold fX9_goesThrough_52 at hf
  refine V.iconst (pc := 52) C dX9_goesThrough_52 (v := (0 : Int32)) (by decide) ?_
  refine V.istore (pc := 53) (L' := [(6, .int (0 : Int32)), (0, .ref v0), (1, .int v1), (2, .int v2), (3, .int v3), (4, .int v4), (5, .int v5)]) C dX9_goesThrough_53 (by decide) rfl ?_
  refine V.sub (L' := [(0, .ref v0), (1, .int v1), (2, .int v2), (3, .int v3), (4, .int v4), (5, .int v5), (6, .int (0 : Int32))]) [1, 2, 3, 4, 5, 6, 0] rfl ?_
  exact bX9_goesThrough_55 C hk15 _ _ _ _ _ _ _ _ _ hf
def fX9_goesThrough_15  : Nat → PH → Nat → Int32 → Int32 → Int32 → Int32 → Option (Unit × PH)
  | 0, _, _, _, _, _, _ => none
  | n + 1, g, v0, v1, v2, v3, v4 =>
  (getR g v0 9 9).bind fun p1 =>
  ((ldI g p1 0 v1).bind fun x3 =>
  (if x3 ≤ v4 then (some ((), g)) else
  ((fX9_elementAt g v0 v1 v4 (0 : Int32)).bind fun q6 =>
  (if q6.1 = (2 : Int32) then (fX9_goesThrough_52 (fX9_goesThrough_15 n) q6.2 v0 v1 v2 (v3 + (1 : Int32)) v4 ((v2 >>> (v3 &&& 31)) &&& (1 : Int32))) else
  (fX9_goesThrough_52 (fX9_goesThrough_15 n) q6.2 v0 v1 v2 v3 v4 q6.1)))))
set_option maxHeartbeats 4000000 in
set_option maxRecDepth 100000 in
theorem bX9_goesThrough_15 {K : HK} {E : HE} {r : Unit} {g' : PH}  (C : VC K E 8 cX9_goesThrough RX9 none)  : ∀ (n : Nat) (g : PH) (v0 : Nat) (v1 : Int32) (v2 : Int32) (v3 : Int32) (v4 : Int32), fX9_goesThrough_15  n g v0 v1 v2 v3 v4 = some (r, g') → V K E (hRm 7 165 0 0) 8 (hZ K E none g' 0 0) 0 0 (kS K) g 15 [(0, .ref v0), (1, .int v1), (2, .int v2), (3, .int v3), (4, .int v4)] [] := by
  intro n
  induction n with
  | zero =>
    intro g v0 v1 v2 v3 v4 hf
    rw [fX9_goesThrough_15] at hf
    cases hf
  | succ n ih =>
    intro g v0 v1 v2 v3 v4 hf
    rw [fX9_goesThrough_15] at hf
    refine V.iload (pc := 15) C dX9_goesThrough_15 4 rfl ?_
    refine V.aload_n (pc := 17) C dX9_goesThrough_17 0 rfl ?_
    replace hf := ob_some hf
    obtain ⟨p1, h2, hf⟩ := hf
    refine V.getR (pc := 18) C kX9 (k := 9) (by decide) wd_1059 h2 dX9_goesThrough_18 ?_
    refine V.iload_n (pc := 21) C dX9_goesThrough_21 1 rfl ?_
    replace hf := ob_some hf
    obtain ⟨x3, h4, hf⟩ := hf
    refine V.iald (pc := 22) C h4 dX9_goesThrough_22 ?_
    refine V.icmp_ge (pc := 23) (t := 132) C dX9_goesThrough_23 (by decide) (fun c5 => ?_) (fun c5 => ?_)
    · replace hf := ite_t c5 hf
      obtain ⟨f1, f2⟩ := fin2 hf
      clear hf
      subst f1
      subst f2
      exact V.vret (pc := 132) C rfl dX9_goesThrough_132
    replace hf := ite_f c5 hf
    refine V.aload_n (pc := 26) C dX9_goesThrough_26 0 rfl ?_
    refine V.iload_n (pc := 27) C dX9_goesThrough_27 1 rfl ?_
    refine V.iload (pc := 28) C dX9_goesThrough_28 4 rfl ?_
    refine V.iconst (pc := 30) C dX9_goesThrough_30 (v := (0 : Int32)) (by decide) ?_
    replace hf := ob_some hf
    obtain ⟨q6, h7, hf⟩ := hf
    refine V.callV0i (pc := 31) C hyX9_elementAt wd_1292 (mX9_elementAt (r := q6.1) (g' := q6.2) K.2.1 E (kS K) h7) rfl rfl rfl (oX9_elementAt h7) ⟨Nat.le_of_ble_eq_true rfl, Nat.le_of_ble_eq_true rfl⟩ (Nat.le_of_ble_eq_true rfl) dX9_goesThrough_31 ⟨Nat.zero_le _, Nat.zero_le _⟩ rfl ?_
    refine V.istore (pc := 34) (L' := [(5, .int q6.1), (0, .ref v0), (1, .int v1), (2, .int v2), (3, .int v3), (4, .int v4)]) C dX9_goesThrough_34 (by decide) rfl ?_
    refine V.iload (pc := 36) C dX9_goesThrough_36 0 rfl ?_
    refine V.iconst (pc := 38) C dX9_goesThrough_38 (v := (2 : Int32)) (by decide) ?_
    refine V.icmp_ne (pc := 39) (t := 52) C dX9_goesThrough_39 (by decide) (fun c8 => ?_) (fun c8 => ?_)
    · replace hf := ite_f c8 hf
      refine V.sub (L' := [(0, .ref v0), (1, .int v1), (2, .int v2), (3, .int v3), (4, .int v4), (5, .int q6.1)]) [1, 2, 3, 4, 5, 0] rfl ?_
      exact bX9_goesThrough_52 C ih hf
    replace hf := ite_t c8 hf
    refine V.iload_n (pc := 42) C dX9_goesThrough_42 3 rfl ?_
    refine V.iload_n (pc := 43) C dX9_goesThrough_43 4 rfl ?_
    refine V.ishr (pc := 44) C dX9_goesThrough_44 ?_
    refine V.iconst (pc := 45) C dX9_goesThrough_45 (v := (1 : Int32)) (by decide) ?_
    refine V.iand (pc := 46) C dX9_goesThrough_46 ?_
    refine V.istore (pc := 47) (L' := [(5, .int ((v2 >>> (v3 &&& 31)) &&& (1 : Int32))), (0, .ref v0), (1, .int v1), (2, .int v2), (3, .int v3), (4, .int v4)]) C dX9_goesThrough_47 (by decide) rfl ?_
    refine V.iinc (pc := 49) (v := (v3 + (1 : Int32))) (L' := [(3, .int (v3 + (1 : Int32))), (5, .int ((v2 >>> (v3 &&& 31)) &&& (1 : Int32))), (0, .ref v0), (1, .int v1), (2, .int v2), (4, .int v4)]) C dX9_goesThrough_49 4 rfl rfl (by decide) rfl ?_
    refine V.sub (L' := [(0, .ref v0), (1, .int v1), (2, .int v2), (3, .int (v3 + (1 : Int32))), (4, .int v4), (5, .int ((v2 >>> (v3 &&& 31)) &&& (1 : Int32)))]) [2, 3, 4, 0, 5, 1] rfl ?_
    exact bX9_goesThrough_52 C ih hf
def fX9_goesThrough (g : PH) (a0 : Nat) (a1 : Int32) (a2 : Int32) : Option (Unit × PH) :=
  okb (isO g a0 9) ((putV g a0 9 20 (.int (0 : Int32))).bind fun g1 =>
  ((putV g1 a0 9 22 (.int (0 : Int32))).bind fun g3 =>
  (fX9_goesThrough_15 FUEL g3 a0 a1 a2 (0 : Int32) (0 : Int32))))
theorem oX9_goesThrough {g : PH} {a0 : Nat} {a1 : Int32} {a2 : Int32} {q : (Unit × PH)} (h : fX9_goesThrough g a0 a1 a2 = some q) : isO g a0 9 = true := by unfold fX9_goesThrough at h; exact (okb_some h).1
theorem hyX9_goesThrough : hMet yX9_goesThrough RX9 cX9_goesThrough 8 none 2 := ⟨wd_1355, wd_1354, ws_83, wd_7, rfl, by decide +kernel, by decide +kernel, by decide +kernel⟩
set_option maxHeartbeats 4000000 in
set_option maxRecDepth 100000 in
theorem mX9_goesThrough (l : Launch) (E : HE) (sz : Nat) {g g' : PH} {a0 : Nat} {a1 : Int32} {a2 : Int32} {r : Unit} (hf : fX9_goesThrough g a0 a1 a2 = some (r, g')) : hM l E yX9_goesThrough cX9_goesThrough 8 none 7 165 0 0 sz g [.ref a0, .int a1, .int a2] none g' := by
  refine hM.of (by decide) (Nat.le_of_ble_eq_true rfl) (fun K hl C hin hsz => ?_)
  subst hl
  subst hsz
  have C : VC K E 8 cX9_goesThrough RX9 none := C
  unfold fX9_goesThrough at hf
  replace hf := okb_some hf
  obtain ⟨ho, hf⟩ := hf
  refine V.start (L' := [(0, .ref a0), (1, .int a1), (2, .int a2)]) rfl ?_
  refine V.aload_n (pc := 0) C dX9_goesThrough_0 0 rfl ?_
  refine V.iconst (pc := 1) C dX9_goesThrough_1 (v := (0 : Int32)) (by decide) ?_
  replace hf := ob_some hf
  obtain ⟨g1, h2, hf⟩ := hf
  refine V.putX (pc := 2) C kX9 (k := 20) (by decide) wd_1070 rfl rfl rfl h2 dX9_goesThrough_2 ?_
  refine V.aload_n (pc := 5) C dX9_goesThrough_5 0 rfl ?_
  refine V.iconst (pc := 6) C dX9_goesThrough_6 (v := (0 : Int32)) (by decide) ?_
  replace hf := ob_some hf
  obtain ⟨g3, h4, hf⟩ := hf
  refine V.putX (pc := 7) C kX9 (k := 22) (by decide) wd_1072 rfl rfl rfl h4 dX9_goesThrough_7 ?_
  refine V.iconst (pc := 10) C dX9_goesThrough_10 (v := (0 : Int32)) (by decide) ?_
  refine V.istore_n (pc := 11) (L' := [(3, .int (0 : Int32)), (0, .ref a0), (1, .int a1), (2, .int a2)]) C dX9_goesThrough_11 (by decide) rfl ?_
  refine V.iconst (pc := 12) C dX9_goesThrough_12 (v := (0 : Int32)) (by decide) ?_
  refine V.istore (pc := 13) (L' := [(4, .int (0 : Int32)), (3, .int (0 : Int32)), (0, .ref a0), (1, .int a1), (2, .int a2)]) C dX9_goesThrough_13 (by decide) rfl ?_
  refine V.sub (L' := [(0, .ref a0), (1, .int a1), (2, .int a2), (3, .int (0 : Int32)), (4, .int (0 : Int32))]) [2, 3, 4, 1, 0] rfl ?_
  exact bX9_goesThrough_15 C  _ _ _ _ _ _ _ hf
theorem dX9_keepsAside_0 : decode cX9_keepsAside 0 = .ok (.iconst 0, 1) := by decide +kernel
theorem dX9_keepsAside_1 : decode cX9_keepsAside 1 = .ok (.istore_n 1, 1) := by decide +kernel
theorem dX9_keepsAside_2 : decode cX9_keepsAside 2 = .ok (.iload_n 1, 1) := by decide +kernel
theorem dX9_keepsAside_3 : decode cX9_keepsAside 3 = .ok (.sipush 133, 3) := by decide +kernel
theorem dX9_keepsAside_6 : decode cX9_keepsAside 6 = .ok (.if_icmp .ge 21, 3) := by decide +kernel
theorem dX9_keepsAside_9 : decode cX9_keepsAside 9 = .ok (.aload_n 0, 1) := by decide +kernel
theorem dX9_keepsAside_10 : decode cX9_keepsAside 10 = .ok (.getfield 35, 3) := by decide +kernel
theorem dX9_keepsAside_13 : decode cX9_keepsAside 13 = .ok (.iload_n 1, 1) := by decide +kernel
theorem dX9_keepsAside_14 : decode cX9_keepsAside 14 = .ok (.aload_n 0, 1) := by decide +kernel
theorem dX9_keepsAside_15 : decode cX9_keepsAside 15 = .ok (.getfield 32, 3) := by decide +kernel
theorem dX9_keepsAside_18 : decode cX9_keepsAside 18 = .ok (.iload_n 1, 1) := by decide +kernel
theorem dX9_keepsAside_19 : decode cX9_keepsAside 19 = .ok (.iaload, 1) := by decide +kernel
theorem dX9_keepsAside_20 : decode cX9_keepsAside 20 = .ok (.iastore, 1) := by decide +kernel
theorem dX9_keepsAside_21 : decode cX9_keepsAside 21 = .ok (.iinc 1 1, 3) := by decide +kernel
theorem dX9_keepsAside_24 : decode cX9_keepsAside 24 = .ok (.goto (-22), 3) := by decide +kernel
theorem dX9_keepsAside_27 : decode cX9_keepsAside 27 = .ok (.return_, 1) := by decide +kernel
def fX9_keepsAside_2  : Nat → PH → Nat → Int32 → Option (Unit × PH)
  | 0, _, _, _ => none
  | n + 1, g, v0, v1 =>
  if (133 : Int32) ≤ v1 then (some ((), g)) else
  ((getR g v0 9 17).bind fun p2 =>
  ((getR g v0 9 16).bind fun p4 =>
  ((ldI g p4 0 v1).bind fun x6 =>
  ((stI g p2 0 v1 x6).bind fun g8 =>
  (fX9_keepsAside_2 n g8 v0 (v1 + (1 : Int32)))))))
set_option maxHeartbeats 4000000 in
set_option maxRecDepth 100000 in
theorem bX9_keepsAside_2 {K : HK} {E : HE} {r : Unit} {g' : PH}  (C : VC K E 2 cX9_keepsAside RX9 none)  : ∀ (n : Nat) (g : PH) (v0 : Nat) (v1 : Int32), fX9_keepsAside_2  n g v0 v1 = some (r, g') → V K E (hRm 0 0 0 0) 2 (hZ K E none g' 0 0) 0 0 (kS K) g 2 [(0, .ref v0), (1, .int v1)] [] := by
  intro n
  induction n with
  | zero =>
    intro g v0 v1 hf
    rw [fX9_keepsAside_2] at hf
    cases hf
  | succ n ih =>
    intro g v0 v1 hf
    rw [fX9_keepsAside_2] at hf
    refine V.iload_n (pc := 2) C dX9_keepsAside_2 1 rfl ?_
    refine V.sipush (pc := 3) C dX9_keepsAside_3 (v := (133 : Int32)) (by decide) ?_
    refine V.icmp_ge (pc := 6) (t := 27) C dX9_keepsAside_6 (by decide) (fun c1 => ?_) (fun c1 => ?_)
    · replace hf := ite_t c1 hf
      obtain ⟨f1, f2⟩ := fin2 hf
      clear hf
      subst f1
      subst f2
      exact V.vret (pc := 27) C rfl dX9_keepsAside_27
    replace hf := ite_f c1 hf
    refine V.aload_n (pc := 9) C dX9_keepsAside_9 0 rfl ?_
    replace hf := ob_some hf
    obtain ⟨p2, h3, hf⟩ := hf
    refine V.getR (pc := 10) C kX9 (k := 17) (by decide) wd_1067 h3 dX9_keepsAside_10 ?_
    refine V.iload_n (pc := 13) C dX9_keepsAside_13 1 rfl ?_
    refine V.aload_n (pc := 14) C dX9_keepsAside_14 0 rfl ?_
    replace hf := ob_some hf
    obtain ⟨p4, h5, hf⟩ := hf
    refine V.getR (pc := 15) C kX9 (k := 16) (by decide) wd_1066 h5 dX9_keepsAside_15 ?_
    refine V.iload_n (pc := 18) C dX9_keepsAside_18 1 rfl ?_
    replace hf := ob_some hf
    obtain ⟨x6, h7, hf⟩ := hf
    refine V.iald (pc := 19) C h7 dX9_keepsAside_19 ?_
    replace hf := ob_some hf
    obtain ⟨g8, h9, hf⟩ := hf
    refine V.iast (pc := 20) C h9 dX9_keepsAside_20 ?_
    refine V.iinc (pc := 21) (v := (v1 + (1 : Int32))) (L' := [(1, .int (v1 + (1 : Int32))), (0, .ref v0)]) C dX9_keepsAside_21 1 rfl rfl (by decide) rfl ?_
    refine V.goto (pc := 24) (t := 2) C dX9_keepsAside_24 (by decide) ?_
    refine V.sub (L' := [(0, .ref v0), (1, .int (v1 + (1 : Int32)))]) [1, 0] rfl ?_
    exact ih _ _ _ hf
def fX9_keepsAside (g : PH) (a0 : Nat) : Option (Unit × PH) :=
  okb (isO g a0 9) (fX9_keepsAside_2 FUEL g a0 (0 : Int32))
theorem oX9_keepsAside {g : PH} {a0 : Nat} {q : (Unit × PH)} (h : fX9_keepsAside g a0 = some q) : isO g a0 9 = true := by unfold fX9_keepsAside at h; exact (okb_some h).1
theorem hyX9_keepsAside : hMet yX9_keepsAside RX9 cX9_keepsAside 2 none 0 := ⟨wd_1312, wd_1311, ws_73, wd_7, rfl, by decide +kernel, by decide +kernel, by decide +kernel⟩
set_option maxHeartbeats 4000000 in
set_option maxRecDepth 100000 in
theorem mX9_keepsAside (l : Launch) (E : HE) (sz : Nat) {g g' : PH} {a0 : Nat} {r : Unit} (hf : fX9_keepsAside g a0 = some (r, g')) : hM l E yX9_keepsAside cX9_keepsAside 2 none 0 0 0 0 sz g [.ref a0] none g' := by
  refine hM.of (by decide) (Nat.le_of_ble_eq_true rfl) (fun K hl C hin hsz => ?_)
  subst hl
  subst hsz
  have C : VC K E 2 cX9_keepsAside RX9 none := C
  unfold fX9_keepsAside at hf
  replace hf := okb_some hf
  obtain ⟨ho, hf⟩ := hf
  refine V.start (L' := [(0, .ref a0)]) rfl ?_
  refine V.iconst (pc := 0) C dX9_keepsAside_0 (v := (0 : Int32)) (by decide) ?_
  refine V.istore_n (pc := 1) (L' := [(1, .int (0 : Int32)), (0, .ref a0)]) C dX9_keepsAside_1 (by decide) rfl ?_
  refine V.sub (L' := [(0, .ref a0), (1, .int (0 : Int32))]) [1, 0] rfl ?_
  exact bX9_keepsAside_2 C  _ _ _ _ hf
theorem dX9_laysBack_0 : decode cX9_laysBack 0 = .ok (.iconst 0, 1) := by decide +kernel
theorem dX9_laysBack_1 : decode cX9_laysBack 1 = .ok (.istore_n 1, 1) := by decide +kernel
theorem dX9_laysBack_2 : decode cX9_laysBack 2 = .ok (.iload_n 1, 1) := by decide +kernel
theorem dX9_laysBack_3 : decode cX9_laysBack 3 = .ok (.sipush 133, 3) := by decide +kernel
theorem dX9_laysBack_6 : decode cX9_laysBack 6 = .ok (.if_icmp .ge 21, 3) := by decide +kernel
theorem dX9_laysBack_9 : decode cX9_laysBack 9 = .ok (.aload_n 0, 1) := by decide +kernel
theorem dX9_laysBack_10 : decode cX9_laysBack 10 = .ok (.getfield 32, 3) := by decide +kernel
theorem dX9_laysBack_13 : decode cX9_laysBack 13 = .ok (.iload_n 1, 1) := by decide +kernel
theorem dX9_laysBack_14 : decode cX9_laysBack 14 = .ok (.aload_n 0, 1) := by decide +kernel
theorem dX9_laysBack_15 : decode cX9_laysBack 15 = .ok (.getfield 35, 3) := by decide +kernel
theorem dX9_laysBack_18 : decode cX9_laysBack 18 = .ok (.iload_n 1, 1) := by decide +kernel
theorem dX9_laysBack_19 : decode cX9_laysBack 19 = .ok (.iaload, 1) := by decide +kernel
theorem dX9_laysBack_20 : decode cX9_laysBack 20 = .ok (.iastore, 1) := by decide +kernel
theorem dX9_laysBack_21 : decode cX9_laysBack 21 = .ok (.iinc 1 1, 3) := by decide +kernel
theorem dX9_laysBack_24 : decode cX9_laysBack 24 = .ok (.goto (-22), 3) := by decide +kernel
theorem dX9_laysBack_27 : decode cX9_laysBack 27 = .ok (.return_, 1) := by decide +kernel
def fX9_laysBack_2  : Nat → PH → Nat → Int32 → Option (Unit × PH)
  | 0, _, _, _ => none
  | n + 1, g, v0, v1 =>
  if (133 : Int32) ≤ v1 then (some ((), g)) else
  ((getR g v0 9 16).bind fun p2 =>
  ((getR g v0 9 17).bind fun p4 =>
  ((ldI g p4 0 v1).bind fun x6 =>
  ((stI g p2 0 v1 x6).bind fun g8 =>
  (fX9_laysBack_2 n g8 v0 (v1 + (1 : Int32)))))))
set_option maxHeartbeats 4000000 in
set_option maxRecDepth 100000 in
theorem bX9_laysBack_2 {K : HK} {E : HE} {r : Unit} {g' : PH}  (C : VC K E 2 cX9_laysBack RX9 none)  : ∀ (n : Nat) (g : PH) (v0 : Nat) (v1 : Int32), fX9_laysBack_2  n g v0 v1 = some (r, g') → V K E (hRm 0 0 0 0) 2 (hZ K E none g' 0 0) 0 0 (kS K) g 2 [(0, .ref v0), (1, .int v1)] [] := by
  intro n
  induction n with
  | zero =>
    intro g v0 v1 hf
    rw [fX9_laysBack_2] at hf
    cases hf
  | succ n ih =>
    intro g v0 v1 hf
    rw [fX9_laysBack_2] at hf
    refine V.iload_n (pc := 2) C dX9_laysBack_2 1 rfl ?_
    refine V.sipush (pc := 3) C dX9_laysBack_3 (v := (133 : Int32)) (by decide) ?_
    refine V.icmp_ge (pc := 6) (t := 27) C dX9_laysBack_6 (by decide) (fun c1 => ?_) (fun c1 => ?_)
    · replace hf := ite_t c1 hf
      obtain ⟨f1, f2⟩ := fin2 hf
      clear hf
      subst f1
      subst f2
      exact V.vret (pc := 27) C rfl dX9_laysBack_27
    replace hf := ite_f c1 hf
    refine V.aload_n (pc := 9) C dX9_laysBack_9 0 rfl ?_
    replace hf := ob_some hf
    obtain ⟨p2, h3, hf⟩ := hf
    refine V.getR (pc := 10) C kX9 (k := 16) (by decide) wd_1066 h3 dX9_laysBack_10 ?_
    refine V.iload_n (pc := 13) C dX9_laysBack_13 1 rfl ?_
    refine V.aload_n (pc := 14) C dX9_laysBack_14 0 rfl ?_
    replace hf := ob_some hf
    obtain ⟨p4, h5, hf⟩ := hf
    refine V.getR (pc := 15) C kX9 (k := 17) (by decide) wd_1067 h5 dX9_laysBack_15 ?_
    refine V.iload_n (pc := 18) C dX9_laysBack_18 1 rfl ?_
    replace hf := ob_some hf
    obtain ⟨x6, h7, hf⟩ := hf
    refine V.iald (pc := 19) C h7 dX9_laysBack_19 ?_
    replace hf := ob_some hf
    obtain ⟨g8, h9, hf⟩ := hf
    refine V.iast (pc := 20) C h9 dX9_laysBack_20 ?_
    refine V.iinc (pc := 21) (v := (v1 + (1 : Int32))) (L' := [(1, .int (v1 + (1 : Int32))), (0, .ref v0)]) C dX9_laysBack_21 1 rfl rfl (by decide) rfl ?_
    refine V.goto (pc := 24) (t := 2) C dX9_laysBack_24 (by decide) ?_
    refine V.sub (L' := [(0, .ref v0), (1, .int (v1 + (1 : Int32)))]) [1, 0] rfl ?_
    exact ih _ _ _ hf
def fX9_laysBack (g : PH) (a0 : Nat) : Option (Unit × PH) :=
  okb (isO g a0 9) (fX9_laysBack_2 FUEL g a0 (0 : Int32))
theorem oX9_laysBack {g : PH} {a0 : Nat} {q : (Unit × PH)} (h : fX9_laysBack g a0 = some q) : isO g a0 9 = true := by unfold fX9_laysBack at h; exact (okb_some h).1
theorem hyX9_laysBack : hMet yX9_laysBack RX9 cX9_laysBack 2 none 0 := ⟨wd_1391, wd_1390, ws_92, wd_7, rfl, by decide +kernel, by decide +kernel, by decide +kernel⟩
set_option maxHeartbeats 4000000 in
set_option maxRecDepth 100000 in
theorem mX9_laysBack (l : Launch) (E : HE) (sz : Nat) {g g' : PH} {a0 : Nat} {r : Unit} (hf : fX9_laysBack g a0 = some (r, g')) : hM l E yX9_laysBack cX9_laysBack 2 none 0 0 0 0 sz g [.ref a0] none g' := by
  refine hM.of (by decide) (Nat.le_of_ble_eq_true rfl) (fun K hl C hin hsz => ?_)
  subst hl
  subst hsz
  have C : VC K E 2 cX9_laysBack RX9 none := C
  unfold fX9_laysBack at hf
  replace hf := okb_some hf
  obtain ⟨ho, hf⟩ := hf
  refine V.start (L' := [(0, .ref a0)]) rfl ?_
  refine V.iconst (pc := 0) C dX9_laysBack_0 (v := (0 : Int32)) (by decide) ?_
  refine V.istore_n (pc := 1) (L' := [(1, .int (0 : Int32)), (0, .ref a0)]) C dX9_laysBack_1 (by decide) rfl ?_
  refine V.sub (L' := [(0, .ref a0), (1, .int (0 : Int32))]) [1, 0] rfl ?_
  exact bX9_laysBack_2 C  _ _ _ _ hf
theorem dX9_tries_0 : decode cX9_tries 0 = .ok (.aload_n 0, 1) := by decide +kernel
theorem dX9_tries_1 : decode cX9_tries 1 = .ok (.getfield 32, 3) := by decide +kernel
theorem dX9_tries_4 : decode cX9_tries 4 = .ok (.iconst 1, 1) := by decide +kernel
theorem dX9_tries_5 : decode cX9_tries 5 = .ok (.iload_n 1, 1) := by decide +kernel
theorem dX9_tries_6 : decode cX9_tries 6 = .ok (.iastore, 1) := by decide +kernel
theorem dX9_tries_7 : decode cX9_tries 7 = .ok (.aload_n 0, 1) := by decide +kernel
theorem dX9_tries_8 : decode cX9_tries 8 = .ok (.getfield 32, 3) := by decide +kernel
theorem dX9_tries_11 : decode cX9_tries 11 = .ok (.iconst 2, 1) := by decide +kernel
theorem dX9_tries_12 : decode cX9_tries 12 = .ok (.iload_n 2, 1) := by decide +kernel
theorem dX9_tries_13 : decode cX9_tries 13 = .ok (.iastore, 1) := by decide +kernel
theorem dX9_tries_14 : decode cX9_tries 14 = .ok (.aload_n 0, 1) := by decide +kernel
theorem dX9_tries_15 : decode cX9_tries 15 = .ok (.getfield 32, 3) := by decide +kernel
theorem dX9_tries_18 : decode cX9_tries 18 = .ok (.iconst 3, 1) := by decide +kernel
theorem dX9_tries_19 : decode cX9_tries 19 = .ok (.iload_n 3, 1) := by decide +kernel
theorem dX9_tries_20 : decode cX9_tries 20 = .ok (.iastore, 1) := by decide +kernel
theorem dX9_tries_21 : decode cX9_tries 21 = .ok (.aload_n 0, 1) := by decide +kernel
theorem dX9_tries_22 : decode cX9_tries 22 = .ok (.getfield 32, 3) := by decide +kernel
theorem dX9_tries_25 : decode cX9_tries 25 = .ok (.iconst 0, 1) := by decide +kernel
theorem dX9_tries_26 : decode cX9_tries 26 = .ok (.iload 4, 2) := by decide +kernel
theorem dX9_tries_28 : decode cX9_tries 28 = .ok (.iastore, 1) := by decide +kernel
theorem dX9_tries_29 : decode cX9_tries 29 = .ok (.aload_n 0, 1) := by decide +kernel
theorem dX9_tries_30 : decode cX9_tries 30 = .ok (.invokevirtual 207, 3) := by decide +kernel
theorem dX9_tries_33 : decode cX9_tries 33 = .ok (.return_, 1) := by decide +kernel
def fX9_tries (g : PH) (a0 : Nat) (a1 : Int32) (a2 : Int32) (a3 : Int32) (a4 : Int32) : Option (Unit × PH) :=
  okb (isO g a0 9) ((getR g a0 9 16).bind fun p1 =>
  ((stI g p1 0 (1 : Int32) a1).bind fun g3 =>
  ((getR g3 a0 9 16).bind fun p5 =>
  ((stI g3 p5 0 (2 : Int32) a2).bind fun g7 =>
  ((getR g7 a0 9 16).bind fun p9 =>
  ((stI g7 p9 0 (3 : Int32) a3).bind fun g11 =>
  ((getR g11 a0 9 16).bind fun p13 =>
  ((stI g11 p13 0 (0 : Int32) a4).bind fun g15 =>
  ((fX9_settles g15 a0).bind fun q17 =>
  (some ((), q17.2)))))))))))
theorem oX9_tries {g : PH} {a0 : Nat} {a1 : Int32} {a2 : Int32} {a3 : Int32} {a4 : Int32} {q : (Unit × PH)} (h : fX9_tries g a0 a1 a2 a3 a4 = some q) : isO g a0 9 = true := by unfold fX9_tries at h; exact (okb_some h).1
theorem hyX9_tries : hMet yX9_tries RX9 cX9_tries 5 none 4 := ⟨wd_1328, wd_1327, ws_77, wd_7, rfl, by decide +kernel, by decide +kernel, by decide +kernel⟩
set_option maxHeartbeats 4000000 in
set_option maxRecDepth 100000 in
theorem mX9_tries (l : Launch) (E : HE) (sz : Nat) {g g' : PH} {a0 : Nat} {a1 : Int32} {a2 : Int32} {a3 : Int32} {a4 : Int32} {r : Unit} (hf : fX9_tries g a0 a1 a2 a3 a4 = some (r, g')) : hM l E yX9_tries cX9_tries 5 none 3 70 0 0 sz g [.ref a0, .int a1, .int a2, .int a3, .int a4] none g' := by
  refine hM.of (by decide) (Nat.le_of_ble_eq_true rfl) (fun K hl C hin hsz => ?_)
  subst hl
  subst hsz
  have C : VC K E 5 cX9_tries RX9 none := C
  unfold fX9_tries at hf
  replace hf := okb_some hf
  obtain ⟨ho, hf⟩ := hf
  refine V.start (L' := [(0, .ref a0), (1, .int a1), (2, .int a2), (3, .int a3), (4, .int a4)]) rfl ?_
  refine V.aload_n (pc := 0) C dX9_tries_0 0 rfl ?_
  replace hf := ob_some hf
  obtain ⟨p1, h2, hf⟩ := hf
  refine V.getR (pc := 1) C kX9 (k := 16) (by decide) wd_1066 h2 dX9_tries_1 ?_
  refine V.iconst (pc := 4) C dX9_tries_4 (v := (1 : Int32)) (by decide) ?_
  refine V.iload_n (pc := 5) C dX9_tries_5 1 rfl ?_
  replace hf := ob_some hf
  obtain ⟨g3, h4, hf⟩ := hf
  refine V.iast (pc := 6) C h4 dX9_tries_6 ?_
  refine V.aload_n (pc := 7) C dX9_tries_7 0 rfl ?_
  replace hf := ob_some hf
  obtain ⟨p5, h6, hf⟩ := hf
  refine V.getR (pc := 8) C kX9 (k := 16) (by decide) wd_1066 h6 dX9_tries_8 ?_
  refine V.iconst (pc := 11) C dX9_tries_11 (v := (2 : Int32)) (by decide) ?_
  refine V.iload_n (pc := 12) C dX9_tries_12 2 rfl ?_
  replace hf := ob_some hf
  obtain ⟨g7, h8, hf⟩ := hf
  refine V.iast (pc := 13) C h8 dX9_tries_13 ?_
  refine V.aload_n (pc := 14) C dX9_tries_14 0 rfl ?_
  replace hf := ob_some hf
  obtain ⟨p9, h10, hf⟩ := hf
  refine V.getR (pc := 15) C kX9 (k := 16) (by decide) wd_1066 h10 dX9_tries_15 ?_
  refine V.iconst (pc := 18) C dX9_tries_18 (v := (3 : Int32)) (by decide) ?_
  refine V.iload_n (pc := 19) C dX9_tries_19 3 rfl ?_
  replace hf := ob_some hf
  obtain ⟨g11, h12, hf⟩ := hf
  refine V.iast (pc := 20) C h12 dX9_tries_20 ?_
  refine V.aload_n (pc := 21) C dX9_tries_21 0 rfl ?_
  replace hf := ob_some hf
  obtain ⟨p13, h14, hf⟩ := hf
  refine V.getR (pc := 22) C kX9 (k := 16) (by decide) wd_1066 h14 dX9_tries_22 ?_
  refine V.iconst (pc := 25) C dX9_tries_25 (v := (0 : Int32)) (by decide) ?_
  refine V.iload (pc := 26) C dX9_tries_26 4 rfl ?_
  replace hf := ob_some hf
  obtain ⟨g15, h16, hf⟩ := hf
  refine V.iast (pc := 28) C h16 dX9_tries_28 ?_
  refine V.aload_n (pc := 29) C dX9_tries_29 0 rfl ?_
  replace hf := ob_some hf
  obtain ⟨q17, h18, hf⟩ := hf
  refine V.callV0v (pc := 30) C hyX9_settles wd_1329 (mX9_settles (r := q17.1) (g' := q17.2) K.2.1 E (kS K) h18) rfl rfl rfl (oX9_settles h18) ⟨Nat.le_of_ble_eq_true rfl, Nat.le_of_ble_eq_true rfl⟩ (Nat.le_of_ble_eq_true rfl) dX9_tries_30 ⟨Nat.zero_le _, Nat.zero_le _⟩ rfl ?_
  obtain ⟨f1, f2⟩ := fin2 hf
  clear hf
  subst f1
  subst f2
  exact V.vret (pc := 33) C rfl dX9_tries_33
theorem dX9_placements_0 : decode cX9_placements 0 = .ok (.aload_n 0, 1) := by decide +kernel
theorem dX9_placements_1 : decode cX9_placements 1 = .ok (.iload_n 1, 1) := by decide +kernel
theorem dX9_placements_2 : decode cX9_placements 2 = .ok (.invokevirtual 237, 3) := by decide +kernel
theorem dX9_placements_5 : decode cX9_placements 5 = .ok (.ifCond .eq 17, 3) := by decide +kernel
theorem dX9_placements_8 : decode cX9_placements 8 = .ok (.aload_n 0, 1) := by decide +kernel
theorem dX9_placements_9 : decode cX9_placements 9 = .ok (.getfield 180, 3) := by decide +kernel
theorem dX9_placements_12 : decode cX9_placements 12 = .ok (.aload_n 0, 1) := by decide +kernel
theorem dX9_placements_13 : decode cX9_placements 13 = .ok (.getfield 180, 3) := by decide +kernel
theorem dX9_placements_16 : decode cX9_placements 16 = .ok (.iconst 1, 1) := by decide +kernel
theorem dX9_placements_17 : decode cX9_placements 17 = .ok (.isub, 1) := by decide +kernel
theorem dX9_placements_18 : decode cX9_placements 18 = .ok (.imul, 1) := by decide +kernel
theorem dX9_placements_19 : decode cX9_placements 19 = .ok (.goto 7, 3) := by decide +kernel
theorem dX9_placements_22 : decode cX9_placements 22 = .ok (.aload_n 0, 1) := by decide +kernel
theorem dX9_placements_23 : decode cX9_placements 23 = .ok (.getfield 180, 3) := by decide +kernel
theorem dX9_placements_26 : decode cX9_placements 26 = .ok (.ireturn, 1) := by decide +kernel
def fX9_placements (g : PH) (a0 : Nat) (a1 : Int32) : Option (Int32 × PH) :=
  okb (isO g a0 9) ((fX9_isPair g a0 a1).bind fun q1 =>
  (if q1.1 = 0 then ((getI q1.2 a0 9 15).bind fun x4 =>
  (some (x4, q1.2))) else
  ((getI q1.2 a0 9 15).bind fun x6 =>
  ((getI q1.2 a0 9 15).bind fun x8 =>
  (some ((x6 * (x8 - (1 : Int32))), q1.2))))))
theorem oX9_placements {g : PH} {a0 : Nat} {a1 : Int32} {q : (Int32 × PH)} (h : fX9_placements g a0 a1 = some q) : isO g a0 9 = true := by unfold fX9_placements at h; exact (okb_some h).1
theorem hyX9_placements : hMet yX9_placements RX9 cX9_placements 2 (some .int) 1 := ⟨wd_1282, wd_1281, ws_69, wd_7, rfl, by decide +kernel, by decide +kernel, by decide +kernel⟩
set_option maxHeartbeats 4000000 in
set_option maxRecDepth 100000 in
theorem mX9_placements (l : Launch) (E : HE) (sz : Nat) {g g' : PH} {a0 : Nat} {a1 : Int32} {r : Int32} (hf : fX9_placements g a0 a1 = some (r, g')) : hM l E yX9_placements cX9_placements 2 (some .int) 2 46 0 0 sz g [.ref a0, .int a1] (some (.int r)) g' := by
  refine hM.of (by decide) (Nat.le_of_ble_eq_true rfl) (fun K hl C hin hsz => ?_)
  subst hl
  subst hsz
  have C : VC K E 2 cX9_placements RX9 (some .int) := C
  unfold fX9_placements at hf
  replace hf := okb_some hf
  obtain ⟨ho, hf⟩ := hf
  refine V.start (L' := [(0, .ref a0), (1, .int a1)]) rfl ?_
  refine V.aload_n (pc := 0) C dX9_placements_0 0 rfl ?_
  refine V.iload_n (pc := 1) C dX9_placements_1 1 rfl ?_
  replace hf := ob_some hf
  obtain ⟨q1, h2, hf⟩ := hf
  refine V.callV0i (pc := 2) C hyX9_isPair wd_1275 (mX9_isPair (r := q1.1) (g' := q1.2) K.2.1 E (kS K) h2) rfl rfl rfl (oX9_isPair h2) ⟨Nat.le_of_ble_eq_true rfl, Nat.le_of_ble_eq_true rfl⟩ (Nat.le_of_ble_eq_true rfl) dX9_placements_2 ⟨Nat.zero_le _, Nat.zero_le _⟩ rfl ?_
  refine V.if_eq (pc := 5) (t := 22) C dX9_placements_5 (by decide) (fun c3 => ?_) (fun c3 => ?_)
  · replace hf := ite_t c3 hf
    refine V.aload_n (pc := 22) C dX9_placements_22 0 rfl ?_
    replace hf := ob_some hf
    obtain ⟨x4, h5, hf⟩ := hf
    refine V.getI (pc := 23) C kX9 (k := 15) (by decide) wd_1065 h5 dX9_placements_23 ?_
    obtain ⟨f1, f2⟩ := fin2 hf
    clear hf
    subst f1
    subst f2
    exact V.iret (pc := 26) C rfl dX9_placements_26
  replace hf := ite_f c3 hf
  refine V.aload_n (pc := 8) C dX9_placements_8 0 rfl ?_
  replace hf := ob_some hf
  obtain ⟨x6, h7, hf⟩ := hf
  refine V.getI (pc := 9) C kX9 (k := 15) (by decide) wd_1065 h7 dX9_placements_9 ?_
  refine V.aload_n (pc := 12) C dX9_placements_12 0 rfl ?_
  replace hf := ob_some hf
  obtain ⟨x8, h9, hf⟩ := hf
  refine V.getI (pc := 13) C kX9 (k := 15) (by decide) wd_1065 h9 dX9_placements_13 ?_
  refine V.iconst (pc := 16) C dX9_placements_16 (v := (1 : Int32)) (by decide) ?_
  refine V.isub (pc := 17) C dX9_placements_17 ?_
  refine V.imul (pc := 18) C dX9_placements_18 ?_
  refine V.goto (pc := 19) (t := 26) C dX9_placements_19 (by decide) ?_
  obtain ⟨f1, f2⟩ := fin2 hf
  clear hf
  subst f1
  subst f2
  exact V.iret (pc := 26) C rfl dX9_placements_26
theorem dX9_laysPlace_0 : decode cX9_laysPlace 0 = .ok (.aload_n 0, 1) := by decide +kernel
theorem dX9_laysPlace_1 : decode cX9_laysPlace 1 = .ok (.iload_n 1, 1) := by decide +kernel
theorem dX9_laysPlace_2 : decode cX9_laysPlace 2 = .ok (.invokevirtual 237, 3) := by decide +kernel
theorem dX9_laysPlace_5 : decode cX9_laysPlace 5 = .ok (.ifCond .ne 14, 3) := by decide +kernel
theorem dX9_laysPlace_8 : decode cX9_laysPlace 8 = .ok (.aload_n 0, 1) := by decide +kernel
theorem dX9_laysPlace_9 : decode cX9_laysPlace 9 = .ok (.iconst (-1), 1) := by decide +kernel
theorem dX9_laysPlace_10 : decode cX9_laysPlace 10 = .ok (.putfield 240, 3) := by decide +kernel
theorem dX9_laysPlace_13 : decode cX9_laysPlace 13 = .ok (.aload_n 0, 1) := by decide +kernel
theorem dX9_laysPlace_14 : decode cX9_laysPlace 14 = .ok (.iload_n 2, 1) := by decide +kernel
theorem dX9_laysPlace_15 : decode cX9_laysPlace 15 = .ok (.putfield 243, 3) := by decide +kernel
theorem dX9_laysPlace_18 : decode cX9_laysPlace 18 = .ok (.return_, 1) := by decide +kernel
theorem dX9_laysPlace_19 : decode cX9_laysPlace 19 = .ok (.aload_n 0, 1) := by decide +kernel
theorem dX9_laysPlace_20 : decode cX9_laysPlace 20 = .ok (.iload_n 2, 1) := by decide +kernel
theorem dX9_laysPlace_21 : decode cX9_laysPlace 21 = .ok (.aload_n 0, 1) := by decide +kernel
theorem dX9_laysPlace_22 : decode cX9_laysPlace 22 = .ok (.getfield 180, 3) := by decide +kernel
theorem dX9_laysPlace_25 : decode cX9_laysPlace 25 = .ok (.iconst 1, 1) := by decide +kernel
theorem dX9_laysPlace_26 : decode cX9_laysPlace 26 = .ok (.isub, 1) := by decide +kernel
theorem dX9_laysPlace_27 : decode cX9_laysPlace 27 = .ok (.idiv, 1) := by decide +kernel
theorem dX9_laysPlace_28 : decode cX9_laysPlace 28 = .ok (.putfield 240, 3) := by decide +kernel
theorem dX9_laysPlace_31 : decode cX9_laysPlace 31 = .ok (.aload_n 0, 1) := by decide +kernel
theorem dX9_laysPlace_32 : decode cX9_laysPlace 32 = .ok (.iload_n 2, 1) := by decide +kernel
theorem dX9_laysPlace_33 : decode cX9_laysPlace 33 = .ok (.aload_n 0, 1) := by decide +kernel
theorem dX9_laysPlace_34 : decode cX9_laysPlace 34 = .ok (.getfield 180, 3) := by decide +kernel
theorem dX9_laysPlace_37 : decode cX9_laysPlace 37 = .ok (.iconst 1, 1) := by decide +kernel
theorem dX9_laysPlace_38 : decode cX9_laysPlace 38 = .ok (.isub, 1) := by decide +kernel
theorem dX9_laysPlace_39 : decode cX9_laysPlace 39 = .ok (.irem, 1) := by decide +kernel
theorem dX9_laysPlace_40 : decode cX9_laysPlace 40 = .ok (.putfield 243, 3) := by decide +kernel
theorem dX9_laysPlace_43 : decode cX9_laysPlace 43 = .ok (.aload_n 0, 1) := by decide +kernel
theorem dX9_laysPlace_44 : decode cX9_laysPlace 44 = .ok (.dup, 1) := by decide +kernel
theorem dX9_laysPlace_45 : decode cX9_laysPlace 45 = .ok (.getfield 243, 3) := by decide +kernel
theorem dX9_laysPlace_48 : decode cX9_laysPlace 48 = .ok (.aload_n 0, 1) := by decide +kernel
theorem dX9_laysPlace_49 : decode cX9_laysPlace 49 = .ok (.getfield 243, 3) := by decide +kernel
theorem dX9_laysPlace_52 : decode cX9_laysPlace 52 = .ok (.aload_n 0, 1) := by decide +kernel
theorem dX9_laysPlace_53 : decode cX9_laysPlace 53 = .ok (.getfield 240, 3) := by decide +kernel
theorem dX9_laysPlace_56 : decode cX9_laysPlace 56 = .ok (.if_icmp .lt 7, 3) := by decide +kernel
theorem dX9_laysPlace_59 : decode cX9_laysPlace 59 = .ok (.iconst 1, 1) := by decide +kernel
theorem dX9_laysPlace_60 : decode cX9_laysPlace 60 = .ok (.goto 4, 3) := by decide +kernel
theorem dX9_laysPlace_63 : decode cX9_laysPlace 63 = .ok (.iconst 0, 1) := by decide +kernel
theorem dX9_laysPlace_64 : decode cX9_laysPlace 64 = .ok (.iadd, 1) := by decide +kernel
theorem dX9_laysPlace_65 : decode cX9_laysPlace 65 = .ok (.putfield 243, 3) := by decide +kernel
theorem dX9_laysPlace_68 : decode cX9_laysPlace 68 = .ok (.return_, 1) := by decide +kernel
def fX9_laysPlace (g : PH) (a0 : Nat) (a1 : Int32) (a2 : Int32) : Option (Unit × PH) :=
  okb (isO g a0 9) ((fX9_isPair g a0 a1).bind fun q1 =>
  (if q1.1 = 0 then ((putV q1.2 a0 9 23 (.int (-1 : Int32))).bind fun g25 =>
  ((putV g25 a0 9 24 (.int a2)).bind fun g27 =>
  (some ((), g27)))) else
  ((getI q1.2 a0 9 15).bind fun x4 =>
  (okb (decide (¬ (x4 - (1 : Int32)) = 0)) ((putV q1.2 a0 9 23 (.int (a2 / (x4 - (1 : Int32))))).bind fun g7 =>
  ((getI g7 a0 9 15).bind fun x9 =>
  (okb (decide (¬ (x9 - (1 : Int32)) = 0)) ((putV g7 a0 9 24 (.int (a2 - a2 / (x9 - (1 : Int32)) * (x9 - (1 : Int32))))).bind fun g12 =>
  ((getI g12 a0 9 24).bind fun x14 =>
  ((getI g12 a0 9 24).bind fun x16 =>
  ((getI g12 a0 9 23).bind fun x18 =>
  (if x16 < x18 then ((putV g12 a0 9 24 (.int (x14 + (0 : Int32)))).bind fun g21 =>
  (some ((), g21))) else
  ((putV g12 a0 9 24 (.int (x14 + (1 : Int32)))).bind fun g23 =>
  (some ((), g23)))))))))))))))
theorem oX9_laysPlace {g : PH} {a0 : Nat} {a1 : Int32} {a2 : Int32} {q : (Unit × PH)} (h : fX9_laysPlace g a0 a1 a2 = some q) : isO g a0 9 = true := by unfold fX9_laysPlace at h; exact (okb_some h).1
theorem hyX9_laysPlace : hMet yX9_laysPlace RX9 cX9_laysPlace 3 none 2 := ⟨wd_1316, wd_1315, ws_74, wd_7, rfl, by decide +kernel, by decide +kernel, by decide +kernel⟩
set_option maxHeartbeats 4000000 in
set_option maxRecDepth 100000 in
theorem mX9_laysPlace (l : Launch) (E : HE) (sz : Nat) {g g' : PH} {a0 : Nat} {a1 : Int32} {a2 : Int32} {r : Unit} (hf : fX9_laysPlace g a0 a1 a2 = some (r, g')) : hM l E yX9_laysPlace cX9_laysPlace 3 none 2 46 0 0 sz g [.ref a0, .int a1, .int a2] none g' := by
  refine hM.of (by decide) (Nat.le_of_ble_eq_true rfl) (fun K hl C hin hsz => ?_)
  subst hl
  subst hsz
  have C : VC K E 3 cX9_laysPlace RX9 none := C
  unfold fX9_laysPlace at hf
  replace hf := okb_some hf
  obtain ⟨ho, hf⟩ := hf
  refine V.start (L' := [(0, .ref a0), (1, .int a1), (2, .int a2)]) rfl ?_
  refine V.aload_n (pc := 0) C dX9_laysPlace_0 0 rfl ?_
  refine V.iload_n (pc := 1) C dX9_laysPlace_1 1 rfl ?_
  replace hf := ob_some hf
  obtain ⟨q1, h2, hf⟩ := hf
  refine V.callV0i (pc := 2) C hyX9_isPair wd_1275 (mX9_isPair (r := q1.1) (g' := q1.2) K.2.1 E (kS K) h2) rfl rfl rfl (oX9_isPair h2) ⟨Nat.le_of_ble_eq_true rfl, Nat.le_of_ble_eq_true rfl⟩ (Nat.le_of_ble_eq_true rfl) dX9_laysPlace_2 ⟨Nat.zero_le _, Nat.zero_le _⟩ rfl ?_
  refine V.if_ne (pc := 5) (t := 19) C dX9_laysPlace_5 (by decide) (fun c3 => ?_) (fun c3 => ?_)
  · replace hf := ite_f c3 hf
    refine V.aload_n (pc := 19) C dX9_laysPlace_19 0 rfl ?_
    refine V.iload_n (pc := 20) C dX9_laysPlace_20 2 rfl ?_
    refine V.aload_n (pc := 21) C dX9_laysPlace_21 0 rfl ?_
    replace hf := ob_some hf
    obtain ⟨x4, h5, hf⟩ := hf
    refine V.getI (pc := 22) C kX9 (k := 15) (by decide) wd_1065 h5 dX9_laysPlace_22 ?_
    refine V.iconst (pc := 25) C dX9_laysPlace_25 (v := (1 : Int32)) (by decide) ?_
    refine V.isub (pc := 26) C dX9_laysPlace_26 ?_
    replace hf := okb_some hf
    obtain ⟨h6, hf⟩ := hf
    refine V.idiv (pc := 27) C dX9_laysPlace_27 (of_decide_eq_true h6) ?_
    replace hf := ob_some hf
    obtain ⟨g7, h8, hf⟩ := hf
    refine V.putX (pc := 28) C kX9 (k := 23) (by decide) wd_1073 rfl rfl rfl h8 dX9_laysPlace_28 ?_
    refine V.aload_n (pc := 31) C dX9_laysPlace_31 0 rfl ?_
    refine V.iload_n (pc := 32) C dX9_laysPlace_32 2 rfl ?_
    refine V.aload_n (pc := 33) C dX9_laysPlace_33 0 rfl ?_
    replace hf := ob_some hf
    obtain ⟨x9, h10, hf⟩ := hf
    refine V.getI (pc := 34) C kX9 (k := 15) (by decide) wd_1065 h10 dX9_laysPlace_34 ?_
    refine V.iconst (pc := 37) C dX9_laysPlace_37 (v := (1 : Int32)) (by decide) ?_
    refine V.isub (pc := 38) C dX9_laysPlace_38 ?_
    replace hf := okb_some hf
    obtain ⟨h11, hf⟩ := hf
    refine V.irem (pc := 39) C dX9_laysPlace_39 (of_decide_eq_true h11) ?_
    replace hf := ob_some hf
    obtain ⟨g12, h13, hf⟩ := hf
    refine V.putX (pc := 40) C kX9 (k := 24) (by decide) wd_1074 rfl rfl rfl h13 dX9_laysPlace_40 ?_
    refine V.aload_n (pc := 43) C dX9_laysPlace_43 0 rfl ?_
    refine V.dup (pc := 44) C dX9_laysPlace_44 rfl ?_
    replace hf := ob_some hf
    obtain ⟨x14, h15, hf⟩ := hf
    refine V.getI (pc := 45) C kX9 (k := 24) (by decide) wd_1074 h15 dX9_laysPlace_45 ?_
    refine V.aload_n (pc := 48) C dX9_laysPlace_48 0 rfl ?_
    replace hf := ob_some hf
    obtain ⟨x16, h17, hf⟩ := hf
    refine V.getI (pc := 49) C kX9 (k := 24) (by decide) wd_1074 h17 dX9_laysPlace_49 ?_
    refine V.aload_n (pc := 52) C dX9_laysPlace_52 0 rfl ?_
    replace hf := ob_some hf
    obtain ⟨x18, h19, hf⟩ := hf
    refine V.getI (pc := 53) C kX9 (k := 23) (by decide) wd_1073 h19 dX9_laysPlace_53 ?_
    refine V.icmp_lt (pc := 56) (t := 63) C dX9_laysPlace_56 (by decide) (fun c20 => ?_) (fun c20 => ?_)
    · replace hf := ite_t c20 hf
      refine V.iconst (pc := 63) C dX9_laysPlace_63 (v := (0 : Int32)) (by decide) ?_
      refine V.iadd (pc := 64) C dX9_laysPlace_64 ?_
      replace hf := ob_some hf
      obtain ⟨g21, h22, hf⟩ := hf
      refine V.putX (pc := 65) C kX9 (k := 24) (by decide) wd_1074 rfl rfl rfl h22 dX9_laysPlace_65 ?_
      obtain ⟨f1, f2⟩ := fin2 hf
      clear hf
      subst f1
      subst f2
      exact V.vret (pc := 68) C rfl dX9_laysPlace_68
    replace hf := ite_f c20 hf
    refine V.iconst (pc := 59) C dX9_laysPlace_59 (v := (1 : Int32)) (by decide) ?_
    refine V.goto (pc := 60) (t := 64) C dX9_laysPlace_60 (by decide) ?_
    refine V.iadd (pc := 64) C dX9_laysPlace_64 ?_
    replace hf := ob_some hf
    obtain ⟨g23, h24, hf⟩ := hf
    refine V.putX (pc := 65) C kX9 (k := 24) (by decide) wd_1074 rfl rfl rfl h24 dX9_laysPlace_65 ?_
    obtain ⟨f1, f2⟩ := fin2 hf
    clear hf
    subst f1
    subst f2
    exact V.vret (pc := 68) C rfl dX9_laysPlace_68
  replace hf := ite_t c3 hf
  refine V.aload_n (pc := 8) C dX9_laysPlace_8 0 rfl ?_
  refine V.iconst (pc := 9) C dX9_laysPlace_9 (v := (-1 : Int32)) (by decide) ?_
  replace hf := ob_some hf
  obtain ⟨g25, h26, hf⟩ := hf
  refine V.putX (pc := 10) C kX9 (k := 23) (by decide) wd_1073 rfl rfl rfl h26 dX9_laysPlace_10 ?_
  refine V.aload_n (pc := 13) C dX9_laysPlace_13 0 rfl ?_
  refine V.iload_n (pc := 14) C dX9_laysPlace_14 2 rfl ?_
  replace hf := ob_some hf
  obtain ⟨g27, h28, hf⟩ := hf
  refine V.putX (pc := 15) C kX9 (k := 24) (by decide) wd_1074 rfl rfl rfl h28 dX9_laysPlace_15 ?_
  obtain ⟨f1, f2⟩ := fin2 hf
  clear hf
  subst f1
  subst f2
  exact V.vret (pc := 18) C rfl dX9_laysPlace_18
theorem dX9_isNear_0 : decode cX9_isNear 0 = .ok (.aload_n 0, 1) := by decide +kernel
theorem dX9_isNear_1 : decode cX9_isNear 1 = .ok (.getfield 240, 3) := by decide +kernel
theorem dX9_isNear_4 : decode cX9_isNear 4 = .ok (.ifCond .lt 29, 3) := by decide +kernel
theorem dX9_isNear_7 : decode cX9_isNear 7 = .ok (.aload_n 0, 1) := by decide +kernel
theorem dX9_isNear_8 : decode cX9_isNear 8 = .ok (.getfield 240, 3) := by decide +kernel
theorem dX9_isNear_11 : decode cX9_isNear 11 = .ok (.aload_n 0, 1) := by decide +kernel
theorem dX9_isNear_12 : decode cX9_isNear 12 = .ok (.getfield 243, 3) := by decide +kernel
theorem dX9_isNear_15 : decode cX9_isNear 15 = .ok (.isub, 1) := by decide +kernel
theorem dX9_isNear_16 : decode cX9_isNear 16 = .ok (.iconst 1, 1) := by decide +kernel
theorem dX9_isNear_17 : decode cX9_isNear 17 = .ok (.if_icmp .eq 16, 3) := by decide +kernel
theorem dX9_isNear_20 : decode cX9_isNear 20 = .ok (.aload_n 0, 1) := by decide +kernel
theorem dX9_isNear_21 : decode cX9_isNear 21 = .ok (.getfield 243, 3) := by decide +kernel
theorem dX9_isNear_24 : decode cX9_isNear 24 = .ok (.aload_n 0, 1) := by decide +kernel
theorem dX9_isNear_25 : decode cX9_isNear 25 = .ok (.getfield 240, 3) := by decide +kernel
theorem dX9_isNear_28 : decode cX9_isNear 28 = .ok (.isub, 1) := by decide +kernel
theorem dX9_isNear_29 : decode cX9_isNear 29 = .ok (.iconst 1, 1) := by decide +kernel
theorem dX9_isNear_30 : decode cX9_isNear 30 = .ok (.if_icmp .ne 7, 3) := by decide +kernel
theorem dX9_isNear_33 : decode cX9_isNear 33 = .ok (.iconst 1, 1) := by decide +kernel
theorem dX9_isNear_34 : decode cX9_isNear 34 = .ok (.goto 4, 3) := by decide +kernel
theorem dX9_isNear_37 : decode cX9_isNear 37 = .ok (.iconst 0, 1) := by decide +kernel
theorem dX9_isNear_38 : decode cX9_isNear 38 = .ok (.ireturn, 1) := by decide +kernel
def fX9_isNear (g : PH) (a0 : Nat) : Option (Int32 × PH) :=
  okb (isO g a0 9) ((getI g a0 9 23).bind fun x1 =>
  (if x1 < 0 then (some ((1 : Int32), g)) else
  ((getI g a0 9 23).bind fun x4 =>
  ((getI g a0 9 24).bind fun x6 =>
  (if (x4 - x6) = (1 : Int32) then (some ((1 : Int32), g)) else
  ((getI g a0 9 24).bind fun x9 =>
  ((getI g a0 9 23).bind fun x11 =>
  (if (x9 - x11) = (1 : Int32) then (some ((1 : Int32), g)) else
  (some ((0 : Int32), g))))))))))
theorem oX9_isNear {g : PH} {a0 : Nat} {q : (Int32 × PH)} (h : fX9_isNear g a0 = some q) : isO g a0 9 = true := by unfold fX9_isNear at h; exact (okb_some h).1
theorem hyX9_isNear : hMet yX9_isNear RX9 cX9_isNear 1 (some .boolean) 0 := ⟨wd_1320, wd_1319, ws_75, wd_7, rfl, by decide +kernel, by decide +kernel, by decide +kernel⟩
set_option maxHeartbeats 4000000 in
set_option maxRecDepth 100000 in
theorem mX9_isNear (l : Launch) (E : HE) (sz : Nat) {g g' : PH} {a0 : Nat} {r : Int32} (hf : fX9_isNear g a0 = some (r, g')) : hM l E yX9_isNear cX9_isNear 1 (some .boolean) 0 0 0 0 sz g [.ref a0] (some (.int r)) g' := by
  refine hM.of (by decide) (Nat.le_of_ble_eq_true rfl) (fun K hl C hin hsz => ?_)
  subst hl
  subst hsz
  have C : VC K E 1 cX9_isNear RX9 (some .boolean) := C
  unfold fX9_isNear at hf
  replace hf := okb_some hf
  obtain ⟨ho, hf⟩ := hf
  refine V.start (L' := [(0, .ref a0)]) rfl ?_
  refine V.aload_n (pc := 0) C dX9_isNear_0 0 rfl ?_
  replace hf := ob_some hf
  obtain ⟨x1, h2, hf⟩ := hf
  refine V.getI (pc := 1) C kX9 (k := 23) (by decide) wd_1073 h2 dX9_isNear_1 ?_
  refine V.if_lt (pc := 4) (t := 33) C dX9_isNear_4 (by decide) (fun c3 => ?_) (fun c3 => ?_)
  · replace hf := ite_t c3 hf
    refine V.iconst (pc := 33) C dX9_isNear_33 (v := (1 : Int32)) (by decide) ?_
    refine V.goto (pc := 34) (t := 38) C dX9_isNear_34 (by decide) ?_
    obtain ⟨f1, f2⟩ := fin2 hf
    clear hf
    subst f1
    subst f2
    exact V.zret (pc := 38) C rfl rfl dX9_isNear_38
  replace hf := ite_f c3 hf
  refine V.aload_n (pc := 7) C dX9_isNear_7 0 rfl ?_
  replace hf := ob_some hf
  obtain ⟨x4, h5, hf⟩ := hf
  refine V.getI (pc := 8) C kX9 (k := 23) (by decide) wd_1073 h5 dX9_isNear_8 ?_
  refine V.aload_n (pc := 11) C dX9_isNear_11 0 rfl ?_
  replace hf := ob_some hf
  obtain ⟨x6, h7, hf⟩ := hf
  refine V.getI (pc := 12) C kX9 (k := 24) (by decide) wd_1074 h7 dX9_isNear_12 ?_
  refine V.isub (pc := 15) C dX9_isNear_15 ?_
  refine V.iconst (pc := 16) C dX9_isNear_16 (v := (1 : Int32)) (by decide) ?_
  refine V.icmp_eq (pc := 17) (t := 33) C dX9_isNear_17 (by decide) (fun c8 => ?_) (fun c8 => ?_)
  · replace hf := ite_t c8 hf
    refine V.iconst (pc := 33) C dX9_isNear_33 (v := (1 : Int32)) (by decide) ?_
    refine V.goto (pc := 34) (t := 38) C dX9_isNear_34 (by decide) ?_
    obtain ⟨f1, f2⟩ := fin2 hf
    clear hf
    subst f1
    subst f2
    exact V.zret (pc := 38) C rfl rfl dX9_isNear_38
  replace hf := ite_f c8 hf
  refine V.aload_n (pc := 20) C dX9_isNear_20 0 rfl ?_
  replace hf := ob_some hf
  obtain ⟨x9, h10, hf⟩ := hf
  refine V.getI (pc := 21) C kX9 (k := 24) (by decide) wd_1074 h10 dX9_isNear_21 ?_
  refine V.aload_n (pc := 24) C dX9_isNear_24 0 rfl ?_
  replace hf := ob_some hf
  obtain ⟨x11, h12, hf⟩ := hf
  refine V.getI (pc := 25) C kX9 (k := 23) (by decide) wd_1073 h12 dX9_isNear_25 ?_
  refine V.isub (pc := 28) C dX9_isNear_28 ?_
  refine V.iconst (pc := 29) C dX9_isNear_29 (v := (1 : Int32)) (by decide) ?_
  refine V.icmp_ne (pc := 30) (t := 37) C dX9_isNear_30 (by decide) (fun c13 => ?_) (fun c13 => ?_)
  · replace hf := ite_f c13 hf
    refine V.iconst (pc := 37) C dX9_isNear_37 (v := (0 : Int32)) (by decide) ?_
    obtain ⟨f1, f2⟩ := fin2 hf
    clear hf
    subst f1
    subst f2
    exact V.zret (pc := 38) C rfl rfl dX9_isNear_38
  replace hf := ite_t c13 hf
  refine V.iconst (pc := 33) C dX9_isNear_33 (v := (1 : Int32)) (by decide) ?_
  refine V.goto (pc := 34) (t := 38) C dX9_isNear_34 (by decide) ?_
  obtain ⟨f1, f2⟩ := fin2 hf
  clear hf
  subst f1
  subst f2
  exact V.zret (pc := 38) C rfl rfl dX9_isNear_38
