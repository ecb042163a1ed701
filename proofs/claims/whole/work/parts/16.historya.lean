theorem dX0_init_0 : decode cX0_init 0 = .ok (.aload_n 0, 1) := by decide +kernel
theorem dX0_init_1 : decode cX0_init 1 = .ok (.invokespecial 1, 3) := by decide +kernel
theorem dX0_init_4 : decode cX0_init 4 = .ok (.aload_n 0, 1) := by decide +kernel
theorem dX0_init_5 : decode cX0_init 5 = .ok (.iconst 0, 1) := by decide +kernel
theorem dX0_init_6 : decode cX0_init 6 = .ok (.putfield 7, 3) := by decide +kernel
theorem dX0_init_9 : decode cX0_init 9 = .ok (.aload_n 0, 1) := by decide +kernel
theorem dX0_init_10 : decode cX0_init 10 = .ok (.iconst 0, 1) := by decide +kernel
theorem dX0_init_11 : decode cX0_init 11 = .ok (.putfield 13, 3) := by decide +kernel
theorem dX0_init_14 : decode cX0_init 14 = .ok (.aload_n 0, 1) := by decide +kernel
theorem dX0_init_15 : decode cX0_init 15 = .ok (.bipush 20, 2) := by decide +kernel
theorem dX0_init_17 : decode cX0_init 17 = .ok (.anewarray 16, 3) := by decide +kernel
theorem dX0_init_20 : decode cX0_init 20 = .ok (.putfield 18, 3) := by decide +kernel
theorem dX0_init_23 : decode cX0_init 23 = .ok (.return_, 1) := by decide +kernel
def fX0_init (sz : Nat) (g : PH) (a0 : Nat) : Option (Unit × PH × Nat × Nat) :=
  (putV g a0 0 0 (.int (0 : Int32))).bind fun g1 =>
  ((putV g1 a0 0 1 (.int (0 : Int32))).bind fun g3 =>
  (bmp 1 20 ((putV (hup g3 sz (.inl (6, 20, .inr (.inr (.inr (.inr (fun _ => none))))))) a0 0 2 (.ref sz)).bind fun g10 =>
  (some ((), g10, 0, 0)))))
theorem hyX0_init : hMetI yX0_init cX0_init 1 0 := ⟨wd_111, wd_110, wd_4, rfl, by decide +kernel, by decide +kernel, by decide +kernel⟩
set_option maxHeartbeats 4000000 in
set_option maxRecDepth 100000 in
theorem mX0_init (l : Launch) (E : HE) (sz : Nat) {g g' : PH} {a0 : Nat} {r : Unit} {mc ms : Nat} (hf : fX0_init sz g a0 = some (r, g', mc, ms)) : hM l E yX0_init cX0_init 1 none 1 20 mc ms sz g [.ref a0] none g' := by
  refine hM.of (by decide) (Nat.le_of_ble_eq_true rfl) (fun K hl C hin hsz => ?_)
  subst hl
  subst hsz
  have C : VC K E 1 cX0_init RX0 none := C
  have hin := hin rfl
  unfold fX0_init at hf
  have hkS : K.2.2.2.1.heap.size = kS K := rfl
  have e1 : 0 + mc = mc := Nat.zero_add _
  have e2 : 0 + ms = ms := Nat.zero_add _
  have e3 : kS K = kS K + 0 := rfl
  refine V.start (L' := [(0, .ref a0)]) rfl ?_
  refine V.aload_n (pc := 0) C dX0_init_0 0 rfl ?_
  refine V.objInit (pc := 1) C wd_112 wd_25 wd_26 (Nat.le_of_ble_eq_true rfl) ⟨Nat.le_of_ble_eq_true rfl, Nat.le_of_ble_eq_true rfl⟩ dX0_init_1 ?_
  refine V.aload_n (pc := 4) C dX0_init_4 0 rfl ?_
  refine V.iconst (pc := 5) C dX0_init_5 (v := (0 : Int32)) (by decide) ?_
  replace hf := ob_some hf
  obtain ⟨g1, h2, hf⟩ := hf
  refine V.putX (pc := 6) C kX0 (k := 0) (by decide) wd_115 rfl rfl rfl h2 dX0_init_6 ?_
  refine V.aload_n (pc := 9) C dX0_init_9 0 rfl ?_
  refine V.iconst (pc := 10) C dX0_init_10 (v := (0 : Int32)) (by decide) ?_
  replace hf := ob_some hf
  obtain ⟨g3, h4, hf⟩ := hf
  refine V.putX (pc := 11) C kX0 (k := 1) (by decide) wd_117 rfl rfl rfl h4 dX0_init_11 ?_
  refine V.aload_n (pc := 14) C dX0_init_14 0 rfl ?_
  refine V.bipush (pc := 15) C dX0_init_15 (v := (20 : Int32)) (by decide) ?_
  replace hf := bmp_some hf
  obtain ⟨b5, b6, hf, h7, h8⟩ := hf
  refine V.anew6 (pc := 17) (M := 20) C wd_113 (by decide) (by decide) (by decide) (by show _ ≤ mc; omega) (by show _ ≤ ms; omega) dX0_init_17 ?_
  replace hf := ob_some hf
  obtain ⟨g10, h11, hf⟩ := hf
  refine V.putF (pc := 20) C kX0 (k := 2) (by decide) wd_118 rfl hin rfl rfl rfl h11 dX0_init_20 ?_
  obtain ⟨f1, f2, f3, f4⟩ := fin4 hf
  clear hf
  subst f1
  subst f2
  refine V.cast (c := mc) (s := ms) (by omega) (by omega) ?_
  exact V.vret (pc := 23) C (by omega) dX0_init_23
theorem dX0_forget_0 : decode cX0_forget 0 = .ok (.aload_n 0, 1) := by decide +kernel
theorem dX0_forget_1 : decode cX0_forget 1 = .ok (.iconst 0, 1) := by decide +kernel
theorem dX0_forget_2 : decode cX0_forget 2 = .ok (.putfield 7, 3) := by decide +kernel
theorem dX0_forget_5 : decode cX0_forget 5 = .ok (.return_, 1) := by decide +kernel
def fX0_forget (g : PH) (a0 : Nat) : Option (Unit × PH) :=
  okb (isO g a0 0) ((putV g a0 0 0 (.int (0 : Int32))).bind fun g1 =>
  (some ((), g1)))
theorem oX0_forget {g : PH} {a0 : Nat} {q : (Unit × PH)} (h : fX0_forget g a0 = some q) : isO g a0 0 = true := by unfold fX0_forget at h; exact (okb_some h).1
theorem hyX0_forget : hMet yX0_forget RX0 cX0_forget 1 none 0 := ⟨wd_825, wd_823, wd_824, wd_4, rfl, by decide +kernel, by decide +kernel, by decide +kernel⟩
set_option maxHeartbeats 4000000 in
set_option maxRecDepth 100000 in
theorem mX0_forget (l : Launch) (E : HE) (sz : Nat) {g g' : PH} {a0 : Nat} {r : Unit} (hf : fX0_forget g a0 = some (r, g')) : hM l E yX0_forget cX0_forget 1 none 0 0 0 0 sz g [.ref a0] none g' := by
  refine hM.of (by decide) (Nat.le_of_ble_eq_true rfl) (fun K hl C hin hsz => ?_)
  subst hl
  subst hsz
  have C : VC K E 1 cX0_forget RX0 none := C
  unfold fX0_forget at hf
  replace hf := okb_some hf
  obtain ⟨ho, hf⟩ := hf
  refine V.start (L' := [(0, .ref a0)]) rfl ?_
  refine V.aload_n (pc := 0) C dX0_forget_0 0 rfl ?_
  refine V.iconst (pc := 1) C dX0_forget_1 (v := (0 : Int32)) (by decide) ?_
  replace hf := ob_some hf
  obtain ⟨g1, h2, hf⟩ := hf
  refine V.putX (pc := 2) C kX0 (k := 0) (by decide) wd_115 rfl rfl rfl h2 dX0_forget_2 ?_
  obtain ⟨f1, f2⟩ := fin2 hf
  clear hf
  subst f1
  subst f2
  exact V.vret (pc := 5) C rfl dX0_forget_5
theorem dX0_keep_0 : decode cX0_keep 0 = .ok (.aload_n 0, 1) := by decide +kernel
theorem dX0_keep_1 : decode cX0_keep 1 = .ok (.getfield 18, 3) := by decide +kernel
theorem dX0_keep_4 : decode cX0_keep 4 = .ok (.aload_n 0, 1) := by decide +kernel
theorem dX0_keep_5 : decode cX0_keep 5 = .ok (.getfield 13, 3) := by decide +kernel
theorem dX0_keep_8 : decode cX0_keep 8 = .ok (.aaload, 1) := by decide +kernel
theorem dX0_keep_9 : decode cX0_keep 9 = .ok (.astore_n 2, 1) := by decide +kernel
theorem dX0_keep_10 : decode cX0_keep 10 = .ok (.aload_n 2, 1) := by decide +kernel
theorem dX0_keep_11 : decode cX0_keep 11 = .ok (.ifnonnull 21, 3) := by decide +kernel
theorem dX0_keep_14 : decode cX0_keep 14 = .ok (.new 16, 3) := by decide +kernel
theorem dX0_keep_17 : decode cX0_keep 17 = .ok (.dup, 1) := by decide +kernel
theorem dX0_keep_18 : decode cX0_keep 18 = .ok (.invokespecial 22, 3) := by decide +kernel
theorem dX0_keep_21 : decode cX0_keep 21 = .ok (.astore_n 2, 1) := by decide +kernel
theorem dX0_keep_22 : decode cX0_keep 22 = .ok (.aload_n 0, 1) := by decide +kernel
theorem dX0_keep_23 : decode cX0_keep 23 = .ok (.getfield 18, 3) := by decide +kernel
theorem dX0_keep_26 : decode cX0_keep 26 = .ok (.aload_n 0, 1) := by decide +kernel
theorem dX0_keep_27 : decode cX0_keep 27 = .ok (.getfield 13, 3) := by decide +kernel
theorem dX0_keep_30 : decode cX0_keep 30 = .ok (.aload_n 2, 1) := by decide +kernel
theorem dX0_keep_31 : decode cX0_keep 31 = .ok (.aastore, 1) := by decide +kernel
theorem dX0_keep_32 : decode cX0_keep 32 = .ok (.aload_n 2, 1) := by decide +kernel
theorem dX0_keep_33 : decode cX0_keep 33 = .ok (.aload_n 1, 1) := by decide +kernel
theorem dX0_keep_34 : decode cX0_keep 34 = .ok (.invokevirtual 23, 3) := by decide +kernel
theorem dX0_keep_37 : decode cX0_keep 37 = .ok (.aload_n 0, 1) := by decide +kernel
theorem dX0_keep_38 : decode cX0_keep 38 = .ok (.aload_n 0, 1) := by decide +kernel
theorem dX0_keep_39 : decode cX0_keep 39 = .ok (.getfield 13, 3) := by decide +kernel
theorem dX0_keep_42 : decode cX0_keep 42 = .ok (.iconst 1, 1) := by decide +kernel
theorem dX0_keep_43 : decode cX0_keep 43 = .ok (.iadd, 1) := by decide +kernel
theorem dX0_keep_44 : decode cX0_keep 44 = .ok (.bipush 20, 2) := by decide +kernel
theorem dX0_keep_46 : decode cX0_keep 46 = .ok (.if_icmp .ge 12, 3) := by decide +kernel
theorem dX0_keep_49 : decode cX0_keep 49 = .ok (.aload_n 0, 1) := by decide +kernel
theorem dX0_keep_50 : decode cX0_keep 50 = .ok (.getfield 13, 3) := by decide +kernel
theorem dX0_keep_53 : decode cX0_keep 53 = .ok (.iconst 1, 1) := by decide +kernel
theorem dX0_keep_54 : decode cX0_keep 54 = .ok (.iadd, 1) := by decide +kernel
theorem dX0_keep_55 : decode cX0_keep 55 = .ok (.goto 4, 3) := by decide +kernel
theorem dX0_keep_58 : decode cX0_keep 58 = .ok (.iconst 0, 1) := by decide +kernel
theorem dX0_keep_59 : decode cX0_keep 59 = .ok (.putfield 13, 3) := by decide +kernel
theorem dX0_keep_62 : decode cX0_keep 62 = .ok (.aload_n 0, 1) := by decide +kernel
theorem dX0_keep_63 : decode cX0_keep 63 = .ok (.bipush 20, 2) := by decide +kernel
theorem dX0_keep_65 : decode cX0_keep 65 = .ok (.aload_n 0, 1) := by decide +kernel
theorem dX0_keep_66 : decode cX0_keep 66 = .ok (.getfield 7, 3) := by decide +kernel
theorem dX0_keep_69 : decode cX0_keep 69 = .ok (.iconst 1, 1) := by decide +kernel
theorem dX0_keep_70 : decode cX0_keep 70 = .ok (.iadd, 1) := by decide +kernel
theorem dX0_keep_71 : decode cX0_keep 71 = .ok (.invokestatic 27, 3) := by decide +kernel
theorem dX0_keep_74 : decode cX0_keep 74 = .ok (.putfield 7, 3) := by decide +kernel
theorem dX0_keep_77 : decode cX0_keep 77 = .ok (.return_, 1) := by decide +kernel
def fX0_keep_59  (g : PH) (sz : Nat) (v0 : Nat) (s0 : Int32) (s1 : Nat) : Option (Unit × PH × Nat × Nat) :=
  (putV g s1 0 1 (.int s0)).bind fun g1 =>
  ((getI g1 v0 0 0).bind fun x3 =>
  ((putV g1 v0 0 0 (.int (if (x3 + (1 : Int32)) < (20 : Int32) then (x3 + (1 : Int32)) else (20 : Int32)))).bind fun g5 =>
  (some ((), g5, 0, 0))))
set_option maxHeartbeats 4000000 in
set_option maxRecDepth 100000 in
theorem bX0_keep_59 {K : HK} {E : HE} {r : Unit} {g' : PH} {mc ms : Nat}  (C : VC K E 3 cX0_keep RX0 none)  {g : PH} {sz : Nat} {v0 : Nat} {s0 : Int32} {s1 : Nat} {u1 u2 cs sl : Nat} (hf : fX0_keep_59  g sz v0 s0 s1 = some (r, g', u1, u2)) (e1 : cs + u1 = mc) (e2 : sl + u2 = ms) (e3 : sz = kS K + cs) : V K E (hRm 2 81 mc ms) 3 (hZ K E none g' mc ms) cs sl sz g 59 [(0, .ref v0)] [.int s0, .ref s1] := by
  have hkS : K.2.2.2.1.heap.size = kS K := rfl
  unfold fX0_keep_59 at hf
  replace hf := ob_some hf
  obtain ⟨g1, h2, hf⟩ := hf
  refine V.putX (pc := 59) C kX0 (k := 1) (by decide) wd_117 rfl rfl rfl h2 dX0_keep_59 ?_
  refine V.aload_n (pc := 62) C dX0_keep_62 0 rfl ?_
  refine V.bipush (pc := 63) C dX0_keep_63 (v := (20 : Int32)) (by decide) ?_
  refine V.aload_n (pc := 65) C dX0_keep_65 0 rfl ?_
  replace hf := ob_some hf
  obtain ⟨x3, h4, hf⟩ := hf
  refine V.getI (pc := 66) C kX0 (k := 0) (by decide) wd_115 h4 dX0_keep_66 ?_
  refine V.iconst (pc := 69) C dX0_keep_69 (v := (1 : Int32)) (by decide) ?_
  refine V.iadd (pc := 70) C dX0_keep_70 ?_
  refine V.mmin (pc := 71) C wd_846 wd_160 wd_6 wd_161 ⟨Nat.le_of_ble_eq_true rfl, Nat.le_of_ble_eq_true rfl⟩ (Nat.le_of_ble_eq_true rfl) ⟨by show _ ≤ mc; omega, by show _ ≤ ms; omega⟩ dX0_keep_71 ?_
  replace hf := ob_some hf
  obtain ⟨g5, h6, hf⟩ := hf
  refine V.putX (pc := 74) C kX0 (k := 0) (by decide) wd_115 rfl rfl rfl h6 dX0_keep_74 ?_
  obtain ⟨f1, f2, f3, f4⟩ := fin4 hf
  clear hf
  subst f1
  subst f2
  refine V.cast (c := mc) (s := ms) (by omega) (by omega) ?_
  exact V.vret (pc := 77) C (by omega) dX0_keep_77
def fX0_keep_32  (g : PH) (sz : Nat) (v0 : Nat) (v1 : Nat) (v2 : Nat) : Option (Unit × PH × Nat × Nat) :=
  (fX3_copyFrom g v2 v1).bind fun q1 =>
  ((getI q1.2 v0 0 1).bind fun x3 =>
  (if (20 : Int32) ≤ (x3 + (1 : Int32)) then (fX0_keep_59 q1.2 sz v0 (0 : Int32) v0) else
  ((getI q1.2 v0 0 1).bind fun x6 =>
  (fX0_keep_59 q1.2 sz v0 (x6 + (1 : Int32)) v0))))
set_option maxHeartbeats 4000000 in
set_option maxRecDepth 100000 in
theorem bX0_keep_32 {K : HK} {E : HE} {r : Unit} {g' : PH} {mc ms : Nat}  (C : VC K E 3 cX0_keep RX0 none)  {g : PH} {sz : Nat} {v0 : Nat} {v1 : Nat} {v2 : Nat} {u1 u2 cs sl : Nat} (hf : fX0_keep_32  g sz v0 v1 v2 = some (r, g', u1, u2)) (e1 : cs + u1 = mc) (e2 : sl + u2 = ms) (e3 : sz = kS K + cs) : V K E (hRm 2 81 mc ms) 3 (hZ K E none g' mc ms) cs sl sz g 32 [(0, .ref v0), (1, .ref v1), (2, .ref v2)] [] := by
  have hkS : K.2.2.2.1.heap.size = kS K := rfl
  unfold fX0_keep_32 at hf
  refine V.aload_n (pc := 32) C dX0_keep_32 2 rfl ?_
  refine V.aload_n (pc := 33) C dX0_keep_33 1 rfl ?_
  replace hf := ob_some hf
  obtain ⟨q1, h2, hf⟩ := hf
  refine V.callV0v (pc := 34) C hyX3_copyFrom wd_839 (mX3_copyFrom (r := q1.1) (g' := q1.2) K.2.1 E (sz) h2) rfl rfl rfl (oX3_copyFrom h2) ⟨Nat.le_of_ble_eq_true rfl, Nat.le_of_ble_eq_true rfl⟩ (Nat.le_of_ble_eq_true rfl) dX0_keep_34 ⟨by show _ ≤ mc; omega, by show _ ≤ ms; omega⟩ rfl ?_
  refine V.aload_n (pc := 37) C dX0_keep_37 0 rfl ?_
  refine V.aload_n (pc := 38) C dX0_keep_38 0 rfl ?_
  replace hf := ob_some hf
  obtain ⟨x3, h4, hf⟩ := hf
  refine V.getI (pc := 39) C kX0 (k := 1) (by decide) wd_117 h4 dX0_keep_39 ?_
  refine V.iconst (pc := 42) C dX0_keep_42 (v := (1 : Int32)) (by decide) ?_
  refine V.iadd (pc := 43) C dX0_keep_43 ?_
  refine V.bipush (pc := 44) C dX0_keep_44 (v := (20 : Int32)) (by decide) ?_
  refine V.icmp_ge (pc := 46) (t := 58) C dX0_keep_46 (by decide) (fun c5 => ?_) (fun c5 => ?_)
  · replace hf := ite_t c5 hf
    refine V.iconst (pc := 58) C dX0_keep_58 (v := (0 : Int32)) (by decide) ?_
    refine V.sub (L' := [(0, .ref v0)]) [0] rfl ?_
    exact bX0_keep_59 C  hf (by omega) (by omega) (by omega)
  replace hf := ite_f c5 hf
  refine V.aload_n (pc := 49) C dX0_keep_49 0 rfl ?_
  replace hf := ob_some hf
  obtain ⟨x6, h7, hf⟩ := hf
  refine V.getI (pc := 50) C kX0 (k := 1) (by decide) wd_117 h7 dX0_keep_50 ?_
  refine V.iconst (pc := 53) C dX0_keep_53 (v := (1 : Int32)) (by decide) ?_
  refine V.iadd (pc := 54) C dX0_keep_54 ?_
  refine V.goto (pc := 55) (t := 59) C dX0_keep_55 (by decide) ?_
  refine V.sub (L' := [(0, .ref v0)]) [0] rfl ?_
  exact bX0_keep_59 C  hf (by omega) (by omega) (by omega)
def fX0_keep (sz : Nat) (g : PH) (a0 : Nat) (a1 : Nat) : Option (Unit × PH × Nat × Nat) :=
  okb (isO g a0 0) ((getR g a0 0 2).bind fun p1 =>
  ((getI g a0 0 1).bind fun x3 =>
  ((ldQ g p1 6 x3).bind fun q5 =>
  (q5.elim (bmp 1 12 ((fX3_init (sz + 1) (hup g sz (.inr (3, dfX3))) sz).bind fun q13 =>
  (bmp q13.2.2.1 q13.2.2.2 ((getR q13.2.1 a0 0 2).bind fun p19 =>
  ((getI q13.2.1 a0 0 1).bind fun x21 =>
  ((stQ q13.2.1 p19 6 3 x21 sz).bind fun g23 =>
  (fX0_keep_32 g23 ((sz + 1) + q13.2.2.1) a0 a1 sz))))))) (fun p7 =>
  fX0_keep_32 g sz a0 a1 p7)))))
theorem oX0_keep {g : PH} {sz : Nat} {a0 : Nat} {a1 : Nat} {q : (Unit × PH × Nat × Nat)} (h : fX0_keep sz g a0 a1 = some q) : isO g a0 0 = true := by unfold fX0_keep at h; exact (okb_some h).1
theorem hyX0_keep : hMet yX0_keep RX0 cX0_keep 3 none 1 := ⟨wd_837, wd_835, wd_836, wd_4, rfl, by decide +kernel, by decide +kernel, by decide +kernel⟩
set_option maxHeartbeats 4000000 in
set_option maxRecDepth 100000 in
theorem mX0_keep (l : Launch) (E : HE) (sz : Nat) {g g' : PH} {a0 : Nat} {a1 : Nat} {r : Unit} {mc ms : Nat} (hf : fX0_keep sz g a0 a1 = some (r, g', mc, ms)) : hM l E yX0_keep cX0_keep 3 none 2 81 mc ms sz g [.ref a0, .ref a1] none g' := by
  refine hM.of (by decide) (Nat.le_of_ble_eq_true rfl) (fun K hl C hin hsz => ?_)
  subst hl
  subst hsz
  have C : VC K E 3 cX0_keep RX0 none := C
  unfold fX0_keep at hf
  replace hf := okb_some hf
  obtain ⟨ho, hf⟩ := hf
  have hkS : K.2.2.2.1.heap.size = kS K := rfl
  have e1 : 0 + mc = mc := Nat.zero_add _
  have e2 : 0 + ms = ms := Nat.zero_add _
  have e3 : kS K = kS K + 0 := rfl
  refine V.start (L' := [(0, .ref a0), (1, .ref a1)]) rfl ?_
  refine V.aload_n (pc := 0) C dX0_keep_0 0 rfl ?_
  replace hf := ob_some hf
  obtain ⟨p1, h2, hf⟩ := hf
  refine V.getR (pc := 1) C kX0 (k := 2) (by decide) wd_118 h2 dX0_keep_1 ?_
  refine V.aload_n (pc := 4) C dX0_keep_4 0 rfl ?_
  replace hf := ob_some hf
  obtain ⟨x3, h4, hf⟩ := hf
  refine V.getI (pc := 5) C kX0 (k := 1) (by decide) wd_117 h4 dX0_keep_5 ?_
  replace hf := ob_some hf
  obtain ⟨q5, h6, hf⟩ := hf
  refine V.aald6 (pc := 8) C h6 dX0_keep_8 ?_
  refine V.astore_nQ (pc := 9) (L' := [(2, va_rf q5), (0, .ref a0), (1, .ref a1)]) C (x := q5) dX0_keep_9 (by decide) rfl ?_
  refine V.aload_nQ (pc := 10) C dX0_keep_10 0 rfl ?_
  rcases q5 with _ | p7
  · refine V.ifnonnullN (pc := 11) C dX0_keep_11 ?_
    replace hf := bmp_some hf
    obtain ⟨b8, b9, hf, h10, h11⟩ := hf
    refine V.new (pc := 14) C kX3 (fs := dfX3) wd_113 wd_54 wd_3 dfX3_ok (by show _ ≤ mc; omega) (by show _ ≤ ms; omega) dX0_keep_14 ?_
    refine V.dup (pc := 17) C dX0_keep_17 rfl ?_
    replace hf := ob_some hf
    obtain ⟨q13, h14, hf⟩ := hf
    replace hf := bmp_some hf
    obtain ⟨b15, b16, hf, h17, h18⟩ := hf
    refine V.callIN (host := RX8) (pc := 18) C hyX3_init (by decide +kernel) (mX3_init (r := q13.1) (g' := q13.2.1) (mc := q13.2.2.1) (ms := q13.2.2.2) K.2.1 E (((kS K) + 1)) h14) rfl ⟨Nat.le_of_ble_eq_true rfl, Nat.le_of_ble_eq_true rfl⟩ (Nat.le_of_ble_eq_true rfl) dX0_keep_18 ⟨by show _ ≤ mc; omega, by show _ ≤ ms; omega⟩ rfl ?_
    refine V.astore_nQ (pc := 21) (L' := [(2, .ref (kS K)), (0, .ref a0), (1, .ref a1)]) C (x := some (kS K)) dX0_keep_21 (by decide) rfl ?_
    refine V.aload_n (pc := 22) C dX0_keep_22 1 rfl ?_
    replace hf := ob_some hf
    obtain ⟨p19, h20, hf⟩ := hf
    refine V.getR (pc := 23) C kX0 (k := 2) (by decide) wd_118 h20 dX0_keep_23 ?_
    refine V.aload_n (pc := 26) C dX0_keep_26 1 rfl ?_
    replace hf := ob_some hf
    obtain ⟨x21, h22, hf⟩ := hf
    refine V.getI (pc := 27) C kX0 (k := 1) (by decide) wd_117 h22 dX0_keep_27 ?_
    refine V.aload_n (pc := 30) C dX0_keep_30 0 rfl ?_
    replace hf := ob_some hf
    obtain ⟨g23, h24, hf⟩ := hf
    refine V.aast6 (pc := 31) C h24 dX0_keep_31 ?_
    refine V.sub (L' := [(0, .ref a0), (1, .ref a1), (2, .ref (kS K))]) [1, 2, 0] rfl ?_
    exact bX0_keep_32 C  hf (by omega) (by omega) (by omega)
  refine V.ifnonnull (pc := 11) (t := 32) C dX0_keep_11 (by decide) ?_
  refine V.sub (L' := [(0, .ref a0), (1, .ref a1), (2, .ref p7)]) [1, 2, 0] rfl ?_
  exact bX0_keep_32 C  hf (by omega) (by omega) (by omega)
theorem dX0_restore_0 : decode cX0_restore 0 = .ok (.aload_n 0, 1) := by decide +kernel
theorem dX0_restore_1 : decode cX0_restore 1 = .ok (.getfield 13, 3) := by decide +kernel
theorem dX0_restore_4 : decode cX0_restore 4 = .ok (.ifCond .le 12, 3) := by decide +kernel
theorem dX0_restore_7 : decode cX0_restore 7 = .ok (.aload_n 0, 1) := by decide +kernel
theorem dX0_restore_8 : decode cX0_restore 8 = .ok (.getfield 13, 3) := by decide +kernel
theorem dX0_restore_11 : decode cX0_restore 11 = .ok (.iconst 1, 1) := by decide +kernel
theorem dX0_restore_12 : decode cX0_restore 12 = .ok (.isub, 1) := by decide +kernel
theorem dX0_restore_13 : decode cX0_restore 13 = .ok (.goto 5, 3) := by decide +kernel
theorem dX0_restore_16 : decode cX0_restore 16 = .ok (.bipush 19, 2) := by decide +kernel
theorem dX0_restore_18 : decode cX0_restore 18 = .ok (.istore_n 2, 1) := by decide +kernel
theorem dX0_restore_19 : decode cX0_restore 19 = .ok (.aload_n 0, 1) := by decide +kernel
theorem dX0_restore_20 : decode cX0_restore 20 = .ok (.getfield 18, 3) := by decide +kernel
theorem dX0_restore_23 : decode cX0_restore 23 = .ok (.iload_n 2, 1) := by decide +kernel
theorem dX0_restore_24 : decode cX0_restore 24 = .ok (.aaload, 1) := by decide +kernel
theorem dX0_restore_25 : decode cX0_restore 25 = .ok (.astore_n 3, 1) := by decide +kernel
theorem dX0_restore_26 : decode cX0_restore 26 = .ok (.aload_n 0, 1) := by decide +kernel
theorem dX0_restore_27 : decode cX0_restore 27 = .ok (.getfield 7, 3) := by decide +kernel
theorem dX0_restore_30 : decode cX0_restore 30 = .ok (.ifCond .le 7, 3) := by decide +kernel
theorem dX0_restore_33 : decode cX0_restore 33 = .ok (.aload_n 3, 1) := by decide +kernel
theorem dX0_restore_34 : decode cX0_restore 34 = .ok (.ifnonnull 5, 3) := by decide +kernel
theorem dX0_restore_37 : decode cX0_restore 37 = .ok (.iconst 0, 1) := by decide +kernel
theorem dX0_restore_38 : decode cX0_restore 38 = .ok (.ireturn, 1) := by decide +kernel
theorem dX0_restore_39 : decode cX0_restore 39 = .ok (.aload_n 1, 1) := by decide +kernel
theorem dX0_restore_40 : decode cX0_restore 40 = .ok (.aload_n 3, 1) := by decide +kernel
theorem dX0_restore_41 : decode cX0_restore 41 = .ok (.invokevirtual 23, 3) := by decide +kernel
theorem dX0_restore_44 : decode cX0_restore 44 = .ok (.aload_n 0, 1) := by decide +kernel
theorem dX0_restore_45 : decode cX0_restore 45 = .ok (.iload_n 2, 1) := by decide +kernel
theorem dX0_restore_46 : decode cX0_restore 46 = .ok (.putfield 13, 3) := by decide +kernel
theorem dX0_restore_49 : decode cX0_restore 49 = .ok (.aload_n 0, 1) := by decide +kernel
theorem dX0_restore_50 : decode cX0_restore 50 = .ok (.dup, 1) := by decide +kernel
theorem dX0_restore_51 : decode cX0_restore 51 = .ok (.getfield 7, 3) := by decide +kernel
theorem dX0_restore_54 : decode cX0_restore 54 = .ok (.iconst 1, 1) := by decide +kernel
theorem dX0_restore_55 : decode cX0_restore 55 = .ok (.isub, 1) := by decide +kernel
theorem dX0_restore_56 : decode cX0_restore 56 = .ok (.putfield 7, 3) := by decide +kernel
theorem dX0_restore_59 : decode cX0_restore 59 = .ok (.iconst 1, 1) := by decide +kernel
theorem dX0_restore_60 : decode cX0_restore 60 = .ok (.ireturn, 1) := by decide +kernel
def fX0_restore_18  (g : PH) (v0 : Nat) (v1 : Nat) (s0 : Int32) : Option (Int32 × PH) :=
  (getR g v0 0 2).bind fun p1 =>
  ((ldQ g p1 6 s0).bind fun q3 =>
  ((getI g v0 0 0).bind fun x5 =>
  (if x5 ≤ 0 then (some ((0 : Int32), g)) else
  (q3.elim (some ((0 : Int32), g)) (fun p8 =>
  (fX3_copyFrom g v1 p8).bind fun q9 =>
  ((putV q9.2 v0 0 1 (.int s0)).bind fun g11 =>
  ((getI g11 v0 0 0).bind fun x13 =>
  ((putV g11 v0 0 0 (.int (x13 - (1 : Int32)))).bind fun g15 =>
  (some ((1 : Int32), g15))))))))))
set_option maxHeartbeats 4000000 in
set_option maxRecDepth 100000 in
theorem bX0_restore_18 {K : HK} {E : HE} {r : Int32} {g' : PH}  (C : VC K E 4 cX0_restore RX0 (some .boolean))  {g : PH} {v0 : Nat} {v1 : Nat} {s0 : Int32} (hf : fX0_restore_18  g v0 v1 s0 = some (r, g')) : V K E (hRm 2 81 0 0) 4 (hZ K E (some (.int r)) g' 0 0) 0 0 (kS K) g 18 [(0, .ref v0), (1, .ref v1)] [.int s0] := by
  unfold fX0_restore_18 at hf
  refine V.istore_n (pc := 18) (L' := [(2, .int s0), (0, .ref v0), (1, .ref v1)]) C dX0_restore_18 (by decide) rfl ?_
  refine V.aload_n (pc := 19) C dX0_restore_19 1 rfl ?_
  replace hf := ob_some hf
  obtain ⟨p1, h2, hf⟩ := hf
  refine V.getR (pc := 20) C kX0 (k := 2) (by decide) wd_118 h2 dX0_restore_20 ?_
  refine V.iload_n (pc := 23) C dX0_restore_23 0 rfl ?_
  replace hf := ob_some hf
  obtain ⟨q3, h4, hf⟩ := hf
  refine V.aald6 (pc := 24) C h4 dX0_restore_24 ?_
  refine V.astore_nQ (pc := 25) (L' := [(3, va_rf q3), (2, .int s0), (0, .ref v0), (1, .ref v1)]) C (x := q3) dX0_restore_25 (by decide) rfl ?_
  refine V.aload_n (pc := 26) C dX0_restore_26 2 rfl ?_
  replace hf := ob_some hf
  obtain ⟨x5, h6, hf⟩ := hf
  refine V.getI (pc := 27) C kX0 (k := 0) (by decide) wd_115 h6 dX0_restore_27 ?_
  refine V.if_le (pc := 30) (t := 37) C dX0_restore_30 (by decide) (fun c7 => ?_) (fun c7 => ?_)
  · replace hf := ite_t c7 hf
    refine V.iconst (pc := 37) C dX0_restore_37 (v := (0 : Int32)) (by decide) ?_
    obtain ⟨f1, f2⟩ := fin2 hf
    clear hf
    subst f1
    subst f2
    exact V.zret (pc := 38) C rfl rfl dX0_restore_38
  replace hf := ite_f c7 hf
  refine V.aload_nQ (pc := 33) C dX0_restore_33 0 rfl ?_
  rcases q3 with _ | p8
  · refine V.ifnonnullN (pc := 34) C dX0_restore_34 ?_
    refine V.iconst (pc := 37) C dX0_restore_37 (v := (0 : Int32)) (by decide) ?_
    obtain ⟨f1, f2⟩ := fin2 hf
    clear hf
    subst f1
    subst f2
    exact V.zret (pc := 38) C rfl rfl dX0_restore_38
  refine V.ifnonnull (pc := 34) (t := 39) C dX0_restore_34 (by decide) ?_
  refine V.aload_n (pc := 39) C dX0_restore_39 3 rfl ?_
  refine V.aload_n (pc := 40) C dX0_restore_40 0 rfl ?_
  replace hf := ob_some hf
  obtain ⟨q9, h10, hf⟩ := hf
  refine V.callV0v (pc := 41) C hyX3_copyFrom wd_839 (mX3_copyFrom (r := q9.1) (g' := q9.2) K.2.1 E (kS K) h10) rfl rfl rfl (oX3_copyFrom h10) ⟨Nat.le_of_ble_eq_true rfl, Nat.le_of_ble_eq_true rfl⟩ (Nat.le_of_ble_eq_true rfl) dX0_restore_41 ⟨Nat.zero_le _, Nat.zero_le _⟩ rfl ?_
  refine V.aload_n (pc := 44) C dX0_restore_44 2 rfl ?_
  refine V.iload_n (pc := 45) C dX0_restore_45 1 rfl ?_
  replace hf := ob_some hf
  obtain ⟨g11, h12, hf⟩ := hf
  refine V.putX (pc := 46) C kX0 (k := 1) (by decide) wd_117 rfl rfl rfl h12 dX0_restore_46 ?_
  refine V.aload_n (pc := 49) C dX0_restore_49 2 rfl ?_
  refine V.dup (pc := 50) C dX0_restore_50 rfl ?_
  replace hf := ob_some hf
  obtain ⟨x13, h14, hf⟩ := hf
  refine V.getI (pc := 51) C kX0 (k := 0) (by decide) wd_115 h14 dX0_restore_51 ?_
  refine V.iconst (pc := 54) C dX0_restore_54 (v := (1 : Int32)) (by decide) ?_
  refine V.isub (pc := 55) C dX0_restore_55 ?_
  replace hf := ob_some hf
  obtain ⟨g15, h16, hf⟩ := hf
  refine V.putX (pc := 56) C kX0 (k := 0) (by decide) wd_115 rfl rfl rfl h16 dX0_restore_56 ?_
  refine V.iconst (pc := 59) C dX0_restore_59 (v := (1 : Int32)) (by decide) ?_
  obtain ⟨f1, f2⟩ := fin2 hf
  clear hf
  subst f1
  subst f2
  exact V.zret (pc := 60) C rfl rfl dX0_restore_60
def fX0_restore (g : PH) (a0 : Nat) (a1 : Nat) : Option (Int32 × PH) :=
  okb (isO g a0 0) ((getI g a0 0 1).bind fun x1 =>
  (if x1 ≤ 0 then (fX0_restore_18 g a0 a1 (19 : Int32)) else
  ((getI g a0 0 1).bind fun x4 =>
  (fX0_restore_18 g a0 a1 (x4 - (1 : Int32))))))
theorem oX0_restore {g : PH} {a0 : Nat} {a1 : Nat} {q : (Int32 × PH)} (h : fX0_restore g a0 a1 = some q) : isO g a0 0 = true := by unfold fX0_restore at h; exact (okb_some h).1
theorem hyX0_restore : hMet yX0_restore RX0 cX0_restore 4 (some .boolean) 1 := ⟨wd_912, wd_910, wd_911, wd_4, rfl, by decide +kernel, by decide +kernel, by decide +kernel⟩
set_option maxHeartbeats 4000000 in
set_option maxRecDepth 100000 in
theorem mX0_restore (l : Launch) (E : HE) (sz : Nat) {g g' : PH} {a0 : Nat} {a1 : Nat} {r : Int32} (hf : fX0_restore g a0 a1 = some (r, g')) : hM l E yX0_restore cX0_restore 4 (some .boolean) 2 81 0 0 sz g [.ref a0, .ref a1] (some (.int r)) g' := by
  refine hM.of (by decide) (Nat.le_of_ble_eq_true rfl) (fun K hl C hin hsz => ?_)
  subst hl
  subst hsz
  have C : VC K E 4 cX0_restore RX0 (some .boolean) := C
  unfold fX0_restore at hf
  replace hf := okb_some hf
  obtain ⟨ho, hf⟩ := hf
  refine V.start (L' := [(0, .ref a0), (1, .ref a1)]) rfl ?_
  refine V.aload_n (pc := 0) C dX0_restore_0 0 rfl ?_
  replace hf := ob_some hf
  obtain ⟨x1, h2, hf⟩ := hf
  refine V.getI (pc := 1) C kX0 (k := 1) (by decide) wd_117 h2 dX0_restore_1 ?_
  refine V.if_le (pc := 4) (t := 16) C dX0_restore_4 (by decide) (fun c3 => ?_) (fun c3 => ?_)
  · replace hf := ite_t c3 hf
    refine V.bipush (pc := 16) C dX0_restore_16 (v := (19 : Int32)) (by decide) ?_
    refine V.sub (L' := [(0, .ref a0), (1, .ref a1)]) [0, 1] rfl ?_
    exact bX0_restore_18 C  hf
  replace hf := ite_f c3 hf
  refine V.aload_n (pc := 7) C dX0_restore_7 0 rfl ?_
  replace hf := ob_some hf
  obtain ⟨x4, h5, hf⟩ := hf
  refine V.getI (pc := 8) C kX0 (k := 1) (by decide) wd_117 h5 dX0_restore_8 ?_
  refine V.iconst (pc := 11) C dX0_restore_11 (v := (1 : Int32)) (by decide) ?_
  refine V.isub (pc := 12) C dX0_restore_12 ?_
  refine V.goto (pc := 13) (t := 18) C dX0_restore_13 (by decide) ?_
  refine V.sub (L' := [(0, .ref a0), (1, .ref a1)]) [0, 1] rfl ?_
  exact bX0_restore_18 C  hf
