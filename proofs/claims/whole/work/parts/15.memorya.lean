theorem dX3_init_0 : decode cX3_init 0 = .ok (.aload_n 0, 1) := by decide +kernel
theorem dX3_init_1 : decode cX3_init 1 = .ok (.invokespecial 3, 3) := by decide +kernel
theorem dX3_init_4 : decode cX3_init 4 = .ok (.aload_n 0, 1) := by decide +kernel
theorem dX3_init_5 : decode cX3_init 5 = .ok (.iconst 2, 1) := by decide +kernel
theorem dX3_init_6 : decode cX3_init 6 = .ok (.putfield 9, 3) := by decide +kernel
theorem dX3_init_9 : decode cX3_init 9 = .ok (.aload_n 0, 1) := by decide +kernel
theorem dX3_init_10 : decode cX3_init 10 = .ok (.iconst 0, 1) := by decide +kernel
theorem dX3_init_11 : decode cX3_init 11 = .ok (.putfield 15, 3) := by decide +kernel
theorem dX3_init_14 : decode cX3_init 14 = .ok (.aload_n 0, 1) := by decide +kernel
theorem dX3_init_15 : decode cX3_init 15 = .ok (.aconst_null, 1) := by decide +kernel
theorem dX3_init_16 : decode cX3_init 16 = .ok (.putfield 18, 3) := by decide +kernel
theorem dX3_init_19 : decode cX3_init 19 = .ok (.aload_n 0, 1) := by decide +kernel
theorem dX3_init_20 : decode cX3_init 20 = .ok (.iconst (-1), 1) := by decide +kernel
theorem dX3_init_21 : decode cX3_init 21 = .ok (.putfield 22, 3) := by decide +kernel
theorem dX3_init_24 : decode cX3_init 24 = .ok (.aload_n 0, 1) := by decide +kernel
theorem dX3_init_25 : decode cX3_init 25 = .ok (.iconst (-1), 1) := by decide +kernel
theorem dX3_init_26 : decode cX3_init 26 = .ok (.putfield 25, 3) := by decide +kernel
theorem dX3_init_29 : decode cX3_init 29 = .ok (.aload_n 0, 1) := by decide +kernel
theorem dX3_init_30 : decode cX3_init 30 = .ok (.iconst (-1), 1) := by decide +kernel
theorem dX3_init_31 : decode cX3_init 31 = .ok (.putfield 28, 3) := by decide +kernel
theorem dX3_init_34 : decode cX3_init 34 = .ok (.aload_n 0, 1) := by decide +kernel
theorem dX3_init_35 : decode cX3_init 35 = .ok (.iconst (-1), 1) := by decide +kernel
theorem dX3_init_36 : decode cX3_init 36 = .ok (.putfield 31, 3) := by decide +kernel
theorem dX3_init_39 : decode cX3_init 39 = .ok (.aload_n 0, 1) := by decide +kernel
theorem dX3_init_40 : decode cX3_init 40 = .ok (.iconst 0, 1) := by decide +kernel
theorem dX3_init_41 : decode cX3_init 41 = .ok (.putfield 34, 3) := by decide +kernel
theorem dX3_init_44 : decode cX3_init 44 = .ok (.aload_n 0, 1) := by decide +kernel
theorem dX3_init_45 : decode cX3_init 45 = .ok (.iconst (-1), 1) := by decide +kernel
theorem dX3_init_46 : decode cX3_init 46 = .ok (.putfield 37, 3) := by decide +kernel
theorem dX3_init_49 : decode cX3_init 49 = .ok (.aload_n 0, 1) := by decide +kernel
theorem dX3_init_50 : decode cX3_init 50 = .ok (.iconst 0, 1) := by decide +kernel
theorem dX3_init_51 : decode cX3_init 51 = .ok (.putfield 40, 3) := by decide +kernel
theorem dX3_init_54 : decode cX3_init 54 = .ok (.aload_n 0, 1) := by decide +kernel
theorem dX3_init_55 : decode cX3_init 55 = .ok (.bipush 6, 2) := by decide +kernel
theorem dX3_init_57 : decode cX3_init 57 = .ok (.newarray .int, 2) := by decide +kernel
theorem dX3_init_59 : decode cX3_init 59 = .ok (.putfield 43, 3) := by decide +kernel
theorem dX3_init_62 : decode cX3_init 62 = .ok (.aload_n 0, 1) := by decide +kernel
theorem dX3_init_63 : decode cX3_init 63 = .ok (.bipush 60, 2) := by decide +kernel
theorem dX3_init_65 : decode cX3_init 65 = .ok (.newarray .int, 2) := by decide +kernel
theorem dX3_init_67 : decode cX3_init 67 = .ok (.putfield 47, 3) := by decide +kernel
theorem dX3_init_70 : decode cX3_init 70 = .ok (.return_, 1) := by decide +kernel
def fX3_init (sz : Nat) (g : PH) (a0 : Nat) : Option (Unit × PH × Nat × Nat) :=
  (putV g a0 3 0 (.int (2 : Int32))).bind fun g1 =>
  ((putV g1 a0 3 1 (.int (0 : Int32))).bind fun g3 =>
  ((putV g3 a0 3 2 (.null)).bind fun g5 =>
  ((putV g5 a0 3 3 (.int (-1 : Int32))).bind fun g7 =>
  ((putV g7 a0 3 4 (.int (-1 : Int32))).bind fun g9 =>
  ((putV g9 a0 3 5 (.int (-1 : Int32))).bind fun g11 =>
  ((putV g11 a0 3 6 (.int (-1 : Int32))).bind fun g13 =>
  ((putV g13 a0 3 7 (.int (0 : Int32))).bind fun g15 =>
  ((putV g15 a0 3 8 (.int (-1 : Int32))).bind fun g17 =>
  ((putV g17 a0 3 9 (.int (0 : Int32))).bind fun g19 =>
  (bmp 1 6 ((putV (hup g19 sz (.inl (0, 6, .inl (fun _ => 0)))) a0 3 10 (.ref sz)).bind fun g26 =>
  (bmp 1 60 ((putV (hup g26 (sz + 1) (.inl (0, 60, .inl (fun _ => 0)))) a0 3 11 (.ref (sz + 1))).bind fun g33 =>
  (some ((), g33, 0, 0)))))))))))))))
theorem hyX3_init : hMetI yX3_init cX3_init 1 0 := ⟨wd_57, wd_56, wd_3, rfl, by decide +kernel, by decide +kernel, by decide +kernel⟩
set_option maxHeartbeats 4000000 in
set_option maxRecDepth 100000 in
theorem mX3_init (l : Launch) (E : HE) (sz : Nat) {g g' : PH} {a0 : Nat} {r : Unit} {mc ms : Nat} (hf : fX3_init sz g a0 = some (r, g', mc, ms)) : hM l E yX3_init cX3_init 1 none 1 20 mc ms sz g [.ref a0] none g' := by
  refine hM.of (by decide) (Nat.le_of_ble_eq_true rfl) (fun K hl C hin hsz => ?_)
  subst hl
  subst hsz
  have C : VC K E 1 cX3_init RX3 none := C
  have hin := hin rfl
  unfold fX3_init at hf
  have hkS : K.2.2.2.1.heap.size = kS K := rfl
  have e1 : 0 + mc = mc := Nat.zero_add _
  have e2 : 0 + ms = ms := Nat.zero_add _
  have e3 : kS K = kS K + 0 := rfl
  refine V.start (L' := [(0, .ref a0)]) rfl ?_
  refine V.aload_n (pc := 0) C dX3_init_0 0 rfl ?_
  refine V.objInit (pc := 1) C wd_58 wd_25 wd_26 (Nat.le_of_ble_eq_true rfl) ⟨Nat.le_of_ble_eq_true rfl, Nat.le_of_ble_eq_true rfl⟩ dX3_init_1 ?_
  refine V.aload_n (pc := 4) C dX3_init_4 0 rfl ?_
  refine V.iconst (pc := 5) C dX3_init_5 (v := (2 : Int32)) (by decide) ?_
  replace hf := ob_some hf
  obtain ⟨g1, h2, hf⟩ := hf
  refine V.putX (pc := 6) C kX3 (k := 0) (by decide) wd_59 rfl rfl rfl h2 dX3_init_6 ?_
  refine V.aload_n (pc := 9) C dX3_init_9 0 rfl ?_
  refine V.iconst (pc := 10) C dX3_init_10 (v := (0 : Int32)) (by decide) ?_
  replace hf := ob_some hf
  obtain ⟨g3, h4, hf⟩ := hf
  refine V.putX (pc := 11) C kX3 (k := 1) (by decide) wd_61 rfl rfl rfl h4 dX3_init_11 ?_
  refine V.aload_n (pc := 14) C dX3_init_14 0 rfl ?_
  refine V.null (pc := 15) C dX3_init_15 ?_
  replace hf := ob_some hf
  obtain ⟨g5, h6, hf⟩ := hf
  refine V.putX (pc := 16) C kX3 (k := 2) (by decide) wd_63 rfl rfl rfl h6 dX3_init_16 ?_
  refine V.aload_n (pc := 19) C dX3_init_19 0 rfl ?_
  refine V.iconst (pc := 20) C dX3_init_20 (v := (-1 : Int32)) (by decide) ?_
  replace hf := ob_some hf
  obtain ⟨g7, h8, hf⟩ := hf
  refine V.putX (pc := 21) C kX3 (k := 3) (by decide) wd_65 rfl rfl rfl h8 dX3_init_21 ?_
  refine V.aload_n (pc := 24) C dX3_init_24 0 rfl ?_
  refine V.iconst (pc := 25) C dX3_init_25 (v := (-1 : Int32)) (by decide) ?_
  replace hf := ob_some hf
  obtain ⟨g9, h10, hf⟩ := hf
  refine V.putX (pc := 26) C kX3 (k := 4) (by decide) wd_67 rfl rfl rfl h10 dX3_init_26 ?_
  refine V.aload_n (pc := 29) C dX3_init_29 0 rfl ?_
  refine V.iconst (pc := 30) C dX3_init_30 (v := (-1 : Int32)) (by decide) ?_
  replace hf := ob_some hf
  obtain ⟨g11, h12, hf⟩ := hf
  refine V.putX (pc := 31) C kX3 (k := 5) (by decide) wd_69 rfl rfl rfl h12 dX3_init_31 ?_
  refine V.aload_n (pc := 34) C dX3_init_34 0 rfl ?_
  refine V.iconst (pc := 35) C dX3_init_35 (v := (-1 : Int32)) (by decide) ?_
  replace hf := ob_some hf
  obtain ⟨g13, h14, hf⟩ := hf
  refine V.putX (pc := 36) C kX3 (k := 6) (by decide) wd_71 rfl rfl rfl h14 dX3_init_36 ?_
  refine V.aload_n (pc := 39) C dX3_init_39 0 rfl ?_
  refine V.iconst (pc := 40) C dX3_init_40 (v := (0 : Int32)) (by decide) ?_
  replace hf := ob_some hf
  obtain ⟨g15, h16, hf⟩ := hf
  refine V.putX (pc := 41) C kX3 (k := 7) (by decide) wd_73 rfl rfl rfl h16 dX3_init_41 ?_
  refine V.aload_n (pc := 44) C dX3_init_44 0 rfl ?_
  refine V.iconst (pc := 45) C dX3_init_45 (v := (-1 : Int32)) (by decide) ?_
  replace hf := ob_some hf
  obtain ⟨g17, h18, hf⟩ := hf
  refine V.putX (pc := 46) C kX3 (k := 8) (by decide) wd_75 rfl rfl rfl h18 dX3_init_46 ?_
  refine V.aload_n (pc := 49) C dX3_init_49 0 rfl ?_
  refine V.iconst (pc := 50) C dX3_init_50 (v := (0 : Int32)) (by decide) ?_
  replace hf := ob_some hf
  obtain ⟨g19, h20, hf⟩ := hf
  refine V.putX (pc := 51) C kX3 (k := 9) (by decide) wd_77 rfl rfl rfl h20 dX3_init_51 ?_
  refine V.aload_n (pc := 54) C dX3_init_54 0 rfl ?_
  refine V.bipush (pc := 55) C dX3_init_55 (v := (6 : Int32)) (by decide) ?_
  replace hf := bmp_some hf
  obtain ⟨b21, b22, hf, h23, h24⟩ := hf
  refine V.newI (pc := 57) (M := 6) C wd_106 (by decide) (by decide) (by decide) (by show _ ≤ mc; omega) (by show _ ≤ ms; omega) dX3_init_57 ?_
  replace hf := ob_some hf
  obtain ⟨g26, h27, hf⟩ := hf
  refine V.putF (pc := 59) C kX3 (k := 10) (by decide) wd_79 rfl hin rfl rfl rfl h27 dX3_init_59 ?_
  refine V.aload_n (pc := 62) C dX3_init_62 0 rfl ?_
  refine V.bipush (pc := 63) C dX3_init_63 (v := (60 : Int32)) (by decide) ?_
  replace hf := bmp_some hf
  obtain ⟨b28, b29, hf, h30, h31⟩ := hf
  refine V.newI (pc := 65) (M := 60) C wd_106 (by decide) (by decide) (by decide) (by show _ ≤ mc; omega) (by show _ ≤ ms; omega) dX3_init_65 ?_
  replace hf := ob_some hf
  obtain ⟨g33, h34, hf⟩ := hf
  refine V.putF (pc := 67) C kX3 (k := 11) (by decide) wd_80 rfl hin rfl rfl rfl h34 dX3_init_67 ?_
  obtain ⟨f1, f2, f3, f4⟩ := fin4 hf
  clear hf
  subst f1
  subst f2
  refine V.cast (c := mc) (s := ms) (by omega) (by omega) ?_
  exact V.vret (pc := 70) C (by omega) dX3_init_70
theorem dX3_copyFrom_0 : decode cX3_copyFrom 0 = .ok (.aload_n 0, 1) := by decide +kernel
theorem dX3_copyFrom_1 : decode cX3_copyFrom 1 = .ok (.aload_n 1, 1) := by decide +kernel
theorem dX3_copyFrom_2 : decode cX3_copyFrom 2 = .ok (.getfield 9, 3) := by decide +kernel
theorem dX3_copyFrom_5 : decode cX3_copyFrom 5 = .ok (.putfield 9, 3) := by decide +kernel
theorem dX3_copyFrom_8 : decode cX3_copyFrom 8 = .ok (.aload_n 0, 1) := by decide +kernel
theorem dX3_copyFrom_9 : decode cX3_copyFrom 9 = .ok (.aload_n 1, 1) := by decide +kernel
theorem dX3_copyFrom_10 : decode cX3_copyFrom 10 = .ok (.getfield 15, 3) := by decide +kernel
theorem dX3_copyFrom_13 : decode cX3_copyFrom 13 = .ok (.putfield 15, 3) := by decide +kernel
theorem dX3_copyFrom_16 : decode cX3_copyFrom 16 = .ok (.aload_n 0, 1) := by decide +kernel
theorem dX3_copyFrom_17 : decode cX3_copyFrom 17 = .ok (.aload_n 1, 1) := by decide +kernel
theorem dX3_copyFrom_18 : decode cX3_copyFrom 18 = .ok (.getfield 18, 3) := by decide +kernel
theorem dX3_copyFrom_21 : decode cX3_copyFrom 21 = .ok (.putfield 18, 3) := by decide +kernel
theorem dX3_copyFrom_24 : decode cX3_copyFrom 24 = .ok (.aload_n 0, 1) := by decide +kernel
theorem dX3_copyFrom_25 : decode cX3_copyFrom 25 = .ok (.aload_n 1, 1) := by decide +kernel
theorem dX3_copyFrom_26 : decode cX3_copyFrom 26 = .ok (.getfield 22, 3) := by decide +kernel
theorem dX3_copyFrom_29 : decode cX3_copyFrom 29 = .ok (.putfield 22, 3) := by decide +kernel
theorem dX3_copyFrom_32 : decode cX3_copyFrom 32 = .ok (.aload_n 0, 1) := by decide +kernel
theorem dX3_copyFrom_33 : decode cX3_copyFrom 33 = .ok (.aload_n 1, 1) := by decide +kernel
theorem dX3_copyFrom_34 : decode cX3_copyFrom 34 = .ok (.getfield 25, 3) := by decide +kernel
theorem dX3_copyFrom_37 : decode cX3_copyFrom 37 = .ok (.putfield 25, 3) := by decide +kernel
theorem dX3_copyFrom_40 : decode cX3_copyFrom 40 = .ok (.aload_n 0, 1) := by decide +kernel
theorem dX3_copyFrom_41 : decode cX3_copyFrom 41 = .ok (.aload_n 1, 1) := by decide +kernel
theorem dX3_copyFrom_42 : decode cX3_copyFrom 42 = .ok (.getfield 28, 3) := by decide +kernel
theorem dX3_copyFrom_45 : decode cX3_copyFrom 45 = .ok (.putfield 28, 3) := by decide +kernel
theorem dX3_copyFrom_48 : decode cX3_copyFrom 48 = .ok (.aload_n 0, 1) := by decide +kernel
theorem dX3_copyFrom_49 : decode cX3_copyFrom 49 = .ok (.aload_n 1, 1) := by decide +kernel
theorem dX3_copyFrom_50 : decode cX3_copyFrom 50 = .ok (.getfield 31, 3) := by decide +kernel
theorem dX3_copyFrom_53 : decode cX3_copyFrom 53 = .ok (.putfield 31, 3) := by decide +kernel
theorem dX3_copyFrom_56 : decode cX3_copyFrom 56 = .ok (.aload_n 0, 1) := by decide +kernel
theorem dX3_copyFrom_57 : decode cX3_copyFrom 57 = .ok (.aload_n 1, 1) := by decide +kernel
theorem dX3_copyFrom_58 : decode cX3_copyFrom 58 = .ok (.getfield 34, 3) := by decide +kernel
theorem dX3_copyFrom_61 : decode cX3_copyFrom 61 = .ok (.putfield 34, 3) := by decide +kernel
theorem dX3_copyFrom_64 : decode cX3_copyFrom 64 = .ok (.aload_n 0, 1) := by decide +kernel
theorem dX3_copyFrom_65 : decode cX3_copyFrom 65 = .ok (.aload_n 1, 1) := by decide +kernel
theorem dX3_copyFrom_66 : decode cX3_copyFrom 66 = .ok (.getfield 37, 3) := by decide +kernel
theorem dX3_copyFrom_69 : decode cX3_copyFrom 69 = .ok (.putfield 37, 3) := by decide +kernel
theorem dX3_copyFrom_72 : decode cX3_copyFrom 72 = .ok (.aload_n 0, 1) := by decide +kernel
theorem dX3_copyFrom_73 : decode cX3_copyFrom 73 = .ok (.aload_n 1, 1) := by decide +kernel
theorem dX3_copyFrom_74 : decode cX3_copyFrom 74 = .ok (.getfield 40, 3) := by decide +kernel
theorem dX3_copyFrom_77 : decode cX3_copyFrom 77 = .ok (.putfield 40, 3) := by decide +kernel
theorem dX3_copyFrom_80 : decode cX3_copyFrom 80 = .ok (.aload_n 1, 1) := by decide +kernel
theorem dX3_copyFrom_81 : decode cX3_copyFrom 81 = .ok (.getfield 43, 3) := by decide +kernel
theorem dX3_copyFrom_84 : decode cX3_copyFrom 84 = .ok (.iconst 0, 1) := by decide +kernel
theorem dX3_copyFrom_85 : decode cX3_copyFrom 85 = .ok (.aload_n 0, 1) := by decide +kernel
theorem dX3_copyFrom_86 : decode cX3_copyFrom 86 = .ok (.getfield 43, 3) := by decide +kernel
theorem dX3_copyFrom_89 : decode cX3_copyFrom 89 = .ok (.iconst 0, 1) := by decide +kernel
theorem dX3_copyFrom_90 : decode cX3_copyFrom 90 = .ok (.bipush 6, 2) := by decide +kernel
theorem dX3_copyFrom_92 : decode cX3_copyFrom 92 = .ok (.invokestatic 63, 3) := by decide +kernel
theorem dX3_copyFrom_95 : decode cX3_copyFrom 95 = .ok (.aload_n 1, 1) := by decide +kernel
theorem dX3_copyFrom_96 : decode cX3_copyFrom 96 = .ok (.getfield 47, 3) := by decide +kernel
theorem dX3_copyFrom_99 : decode cX3_copyFrom 99 = .ok (.iconst 0, 1) := by decide +kernel
theorem dX3_copyFrom_100 : decode cX3_copyFrom 100 = .ok (.aload_n 0, 1) := by decide +kernel
theorem dX3_copyFrom_101 : decode cX3_copyFrom 101 = .ok (.getfield 47, 3) := by decide +kernel
theorem dX3_copyFrom_104 : decode cX3_copyFrom 104 = .ok (.iconst 0, 1) := by decide +kernel
theorem dX3_copyFrom_105 : decode cX3_copyFrom 105 = .ok (.bipush 60, 2) := by decide +kernel
theorem dX3_copyFrom_107 : decode cX3_copyFrom 107 = .ok (.invokestatic 63, 3) := by decide +kernel
theorem dX3_copyFrom_110 : decode cX3_copyFrom 110 = .ok (.return_, 1) := by decide +kernel
def fX3_copyFrom (g : PH) (a0 : Nat) (a1 : Nat) : Option (Unit × PH) :=
  okb (isO g a0 3) ((getI g a1 3 0).bind fun x1 =>
  ((putV g a0 3 0 (.int x1)).bind fun g3 =>
  ((getI g3 a1 3 1).bind fun x5 =>
  ((putV g3 a0 3 1 (.int x5)).bind fun g7 =>
  ((getQ g7 a1 3 2).bind fun q9 =>
  ((putV g7 a0 3 2 (va_rf q9)).bind fun g11 =>
  ((getI g11 a1 3 3).bind fun x13 =>
  ((putV g11 a0 3 3 (.int x13)).bind fun g15 =>
  ((getI g15 a1 3 4).bind fun x17 =>
  ((putV g15 a0 3 4 (.int x17)).bind fun g19 =>
  ((getI g19 a1 3 5).bind fun x21 =>
  ((putV g19 a0 3 5 (.int x21)).bind fun g23 =>
  ((getI g23 a1 3 6).bind fun x25 =>
  ((putV g23 a0 3 6 (.int x25)).bind fun g27 =>
  ((getI g27 a1 3 7).bind fun x29 =>
  ((putV g27 a0 3 7 (.int x29)).bind fun g31 =>
  ((getI g31 a1 3 8).bind fun x33 =>
  ((putV g31 a0 3 8 (.int x33)).bind fun g35 =>
  ((getI g35 a1 3 9).bind fun x37 =>
  ((putV g35 a0 3 9 (.int x37)).bind fun g39 =>
  ((getR g39 a1 3 10).bind fun p41 =>
  ((getR g39 a0 3 10).bind fun p43 =>
  ((cpI g39 p41 (0 : Int32) p43 (0 : Int32) (6 : Int32)).bind fun g45 =>
  ((getR g45 a1 3 11).bind fun p47 =>
  ((getR g45 a0 3 11).bind fun p49 =>
  ((cpI g45 p47 (0 : Int32) p49 (0 : Int32) (60 : Int32)).bind fun g51 =>
  (some ((), g51))))))))))))))))))))))))))))
theorem oX3_copyFrom {g : PH} {a0 : Nat} {a1 : Nat} {q : (Unit × PH)} (h : fX3_copyFrom g a0 a1 = some q) : isO g a0 3 = true := by unfold fX3_copyFrom at h; exact (okb_some h).1
theorem hyX3_copyFrom : hMet yX3_copyFrom RX3 cX3_copyFrom 2 none 1 := ⟨wd_842, wd_840, wd_841, wd_3, rfl, by decide +kernel, by decide +kernel, by decide +kernel⟩
set_option maxHeartbeats 4000000 in
set_option maxRecDepth 100000 in
theorem mX3_copyFrom (l : Launch) (E : HE) (sz : Nat) {g g' : PH} {a0 : Nat} {a1 : Nat} {r : Unit} (hf : fX3_copyFrom g a0 a1 = some (r, g')) : hM l E yX3_copyFrom cX3_copyFrom 2 none 1 60 0 0 sz g [.ref a0, .ref a1] none g' := by
  refine hM.of (by decide) (Nat.le_of_ble_eq_true rfl) (fun K hl C hin hsz => ?_)
  subst hl
  subst hsz
  have C : VC K E 2 cX3_copyFrom RX3 none := C
  unfold fX3_copyFrom at hf
  replace hf := okb_some hf
  obtain ⟨ho, hf⟩ := hf
  refine V.start (L' := [(0, .ref a0), (1, .ref a1)]) rfl ?_
  refine V.aload_n (pc := 0) C dX3_copyFrom_0 0 rfl ?_
  refine V.aload_n (pc := 1) C dX3_copyFrom_1 1 rfl ?_
  replace hf := ob_some hf
  obtain ⟨x1, h2, hf⟩ := hf
  refine V.getI (pc := 2) C kX3 (k := 0) (by decide) wd_59 h2 dX3_copyFrom_2 ?_
  replace hf := ob_some hf
  obtain ⟨g3, h4, hf⟩ := hf
  refine V.putX (pc := 5) C kX3 (k := 0) (by decide) wd_59 rfl rfl rfl h4 dX3_copyFrom_5 ?_
  refine V.aload_n (pc := 8) C dX3_copyFrom_8 0 rfl ?_
  refine V.aload_n (pc := 9) C dX3_copyFrom_9 1 rfl ?_
  replace hf := ob_some hf
  obtain ⟨x5, h6, hf⟩ := hf
  refine V.getI (pc := 10) C kX3 (k := 1) (by decide) wd_61 h6 dX3_copyFrom_10 ?_
  replace hf := ob_some hf
  obtain ⟨g7, h8, hf⟩ := hf
  refine V.putX (pc := 13) C kX3 (k := 1) (by decide) wd_61 rfl rfl rfl h8 dX3_copyFrom_13 ?_
  refine V.aload_n (pc := 16) C dX3_copyFrom_16 0 rfl ?_
  refine V.aload_n (pc := 17) C dX3_copyFrom_17 1 rfl ?_
  replace hf := ob_some hf
  obtain ⟨q9, h10, hf⟩ := hf
  refine V.getQ (pc := 18) C kX3 (k := 2) (by decide) wd_63 h10 dX3_copyFrom_18 ?_
  replace hf := ob_some hf
  obtain ⟨g11, h12, hf⟩ := hf
  refine V.putX (pc := 21) C kX3 (k := 2) (by decide) wd_63 rfl (by cases q9 <;> rfl) (by cases q9 <;> rfl) h12 dX3_copyFrom_21 ?_
  refine V.aload_n (pc := 24) C dX3_copyFrom_24 0 rfl ?_
  refine V.aload_n (pc := 25) C dX3_copyFrom_25 1 rfl ?_
  replace hf := ob_some hf
  obtain ⟨x13, h14, hf⟩ := hf
  refine V.getI (pc := 26) C kX3 (k := 3) (by decide) wd_65 h14 dX3_copyFrom_26 ?_
  replace hf := ob_some hf
  obtain ⟨g15, h16, hf⟩ := hf
  refine V.putX (pc := 29) C kX3 (k := 3) (by decide) wd_65 rfl rfl rfl h16 dX3_copyFrom_29 ?_
  refine V.aload_n (pc := 32) C dX3_copyFrom_32 0 rfl ?_
  refine V.aload_n (pc := 33) C dX3_copyFrom_33 1 rfl ?_
  replace hf := ob_some hf
  obtain ⟨x17, h18, hf⟩ := hf
  refine V.getI (pc := 34) C kX3 (k := 4) (by decide) wd_67 h18 dX3_copyFrom_34 ?_
  replace hf := ob_some hf
  obtain ⟨g19, h20, hf⟩ := hf
  refine V.putX (pc := 37) C kX3 (k := 4) (by decide) wd_67 rfl rfl rfl h20 dX3_copyFrom_37 ?_
  refine V.aload_n (pc := 40) C dX3_copyFrom_40 0 rfl ?_
  refine V.aload_n (pc := 41) C dX3_copyFrom_41 1 rfl ?_
  replace hf := ob_some hf
  obtain ⟨x21, h22, hf⟩ := hf
  refine V.getI (pc := 42) C kX3 (k := 5) (by decide) wd_69 h22 dX3_copyFrom_42 ?_
  replace hf := ob_some hf
  obtain ⟨g23, h24, hf⟩ := hf
  refine V.putX (pc := 45) C kX3 (k := 5) (by decide) wd_69 rfl rfl rfl h24 dX3_copyFrom_45 ?_
  refine V.aload_n (pc := 48) C dX3_copyFrom_48 0 rfl ?_
  refine V.aload_n (pc := 49) C dX3_copyFrom_49 1 rfl ?_
  replace hf := ob_some hf
  obtain ⟨x25, h26, hf⟩ := hf
  refine V.getI (pc := 50) C kX3 (k := 6) (by decide) wd_71 h26 dX3_copyFrom_50 ?_
  replace hf := ob_some hf
  obtain ⟨g27, h28, hf⟩ := hf
  refine V.putX (pc := 53) C kX3 (k := 6) (by decide) wd_71 rfl rfl rfl h28 dX3_copyFrom_53 ?_
  refine V.aload_n (pc := 56) C dX3_copyFrom_56 0 rfl ?_
  refine V.aload_n (pc := 57) C dX3_copyFrom_57 1 rfl ?_
  replace hf := ob_some hf
  obtain ⟨x29, h30, hf⟩ := hf
  refine V.getI (pc := 58) C kX3 (k := 7) (by decide) wd_73 h30 dX3_copyFrom_58 ?_
  replace hf := ob_some hf
  obtain ⟨g31, h32, hf⟩ := hf
  refine V.putX (pc := 61) C kX3 (k := 7) (by decide) wd_73 rfl rfl rfl h32 dX3_copyFrom_61 ?_
  refine V.aload_n (pc := 64) C dX3_copyFrom_64 0 rfl ?_
  refine V.aload_n (pc := 65) C dX3_copyFrom_65 1 rfl ?_
  replace hf := ob_some hf
  obtain ⟨x33, h34, hf⟩ := hf
  refine V.getI (pc := 66) C kX3 (k := 8) (by decide) wd_75 h34 dX3_copyFrom_66 ?_
  replace hf := ob_some hf
  obtain ⟨g35, h36, hf⟩ := hf
  refine V.putX (pc := 69) C kX3 (k := 8) (by decide) wd_75 rfl rfl rfl h36 dX3_copyFrom_69 ?_
  refine V.aload_n (pc := 72) C dX3_copyFrom_72 0 rfl ?_
  refine V.aload_n (pc := 73) C dX3_copyFrom_73 1 rfl ?_
  replace hf := ob_some hf
  obtain ⟨x37, h38, hf⟩ := hf
  refine V.getI (pc := 74) C kX3 (k := 9) (by decide) wd_77 h38 dX3_copyFrom_74 ?_
  replace hf := ob_some hf
  obtain ⟨g39, h40, hf⟩ := hf
  refine V.putX (pc := 77) C kX3 (k := 9) (by decide) wd_77 rfl rfl rfl h40 dX3_copyFrom_77 ?_
  refine V.aload_n (pc := 80) C dX3_copyFrom_80 1 rfl ?_
  replace hf := ob_some hf
  obtain ⟨p41, h42, hf⟩ := hf
  refine V.getR (pc := 81) C kX3 (k := 10) (by decide) wd_79 h42 dX3_copyFrom_81 ?_
  refine V.iconst (pc := 84) C dX3_copyFrom_84 (v := (0 : Int32)) (by decide) ?_
  refine V.aload_n (pc := 85) C dX3_copyFrom_85 0 rfl ?_
  replace hf := ob_some hf
  obtain ⟨p43, h44, hf⟩ := hf
  refine V.getR (pc := 86) C kX3 (k := 10) (by decide) wd_79 h44 dX3_copyFrom_86 ?_
  refine V.iconst (pc := 89) C dX3_copyFrom_89 (v := (0 : Int32)) (by decide) ?_
  refine V.bipush (pc := 90) C dX3_copyFrom_90 (v := (6 : Int32)) (by decide) ?_
  replace hf := ob_some hf
  obtain ⟨g45, h46, hf⟩ := hf
  refine V.copyI (pc := 92) C wd_843 wd_845 wd_844 wd_17 ⟨Nat.le_of_ble_eq_true rfl, Nat.le_of_ble_eq_true rfl⟩ (Nat.le_of_ble_eq_true rfl) h46 dX3_copyFrom_92 ?_
  refine V.aload_n (pc := 95) C dX3_copyFrom_95 1 rfl ?_
  replace hf := ob_some hf
  obtain ⟨p47, h48, hf⟩ := hf
  refine V.getR (pc := 96) C kX3 (k := 11) (by decide) wd_80 h48 dX3_copyFrom_96 ?_
  refine V.iconst (pc := 99) C dX3_copyFrom_99 (v := (0 : Int32)) (by decide) ?_
  refine V.aload_n (pc := 100) C dX3_copyFrom_100 0 rfl ?_
  replace hf := ob_some hf
  obtain ⟨p49, h50, hf⟩ := hf
  refine V.getR (pc := 101) C kX3 (k := 11) (by decide) wd_80 h50 dX3_copyFrom_101 ?_
  refine V.iconst (pc := 104) C dX3_copyFrom_104 (v := (0 : Int32)) (by decide) ?_
  refine V.bipush (pc := 105) C dX3_copyFrom_105 (v := (60 : Int32)) (by decide) ?_
  replace hf := ob_some hf
  obtain ⟨g51, h52, hf⟩ := hf
  refine V.copyI (pc := 107) C wd_843 wd_845 wd_844 wd_17 ⟨Nat.le_of_ble_eq_true rfl, Nat.le_of_ble_eq_true rfl⟩ (Nat.le_of_ble_eq_true rfl) h52 dX3_copyFrom_107 ?_
  obtain ⟨f1, f2⟩ := fin2 hf
  clear hf
  subst f1
  subst f2
  exact V.vret (pc := 110) C rfl dX3_copyFrom_110
theorem dX3_state_0 : decode cX3_state 0 = .ok (.aload_n 0, 1) := by decide +kernel
theorem dX3_state_1 : decode cX3_state 1 = .ok (.getfield 28, 3) := by decide +kernel
theorem dX3_state_4 : decode cX3_state 4 = .ok (.iconst (-1), 1) := by decide +kernel
theorem dX3_state_5 : decode cX3_state 5 = .ok (.if_icmp .ne 7, 3) := by decide +kernel
theorem dX3_state_8 : decode cX3_state 8 = .ok (.iconst 0, 1) := by decide +kernel
theorem dX3_state_9 : decode cX3_state 9 = .ok (.goto 14, 3) := by decide +kernel
theorem dX3_state_12 : decode cX3_state 12 = .ok (.aload_n 0, 1) := by decide +kernel
theorem dX3_state_13 : decode cX3_state 13 = .ok (.getfield 15, 3) := by decide +kernel
theorem dX3_state_16 : decode cX3_state 16 = .ok (.aload_n 0, 1) := by decide +kernel
theorem dX3_state_17 : decode cX3_state 17 = .ok (.getfield 28, 3) := by decide +kernel
theorem dX3_state_20 : decode cX3_state 20 = .ok (.ishr, 1) := by decide +kernel
theorem dX3_state_21 : decode cX3_state 21 = .ok (.iconst 1, 1) := by decide +kernel
theorem dX3_state_22 : decode cX3_state 22 = .ok (.iand, 1) := by decide +kernel
theorem dX3_state_23 : decode cX3_state 23 = .ok (.istore_n 1, 1) := by decide +kernel
theorem dX3_state_24 : decode cX3_state 24 = .ok (.aload_n 0, 1) := by decide +kernel
theorem dX3_state_25 : decode cX3_state 25 = .ok (.getfield 25, 3) := by decide +kernel
theorem dX3_state_28 : decode cX3_state 28 = .ok (.iconst (-1), 1) := by decide +kernel
theorem dX3_state_29 : decode cX3_state 29 = .ok (.if_icmp .ne 7, 3) := by decide +kernel
theorem dX3_state_32 : decode cX3_state 32 = .ok (.iload_n 1, 1) := by decide +kernel
theorem dX3_state_33 : decode cX3_state 33 = .ok (.goto 18, 3) := by decide +kernel
theorem dX3_state_36 : decode cX3_state 36 = .ok (.iload_n 1, 1) := by decide +kernel
theorem dX3_state_37 : decode cX3_state 37 = .ok (.aload_n 0, 1) := by decide +kernel
theorem dX3_state_38 : decode cX3_state 38 = .ok (.getfield 15, 3) := by decide +kernel
theorem dX3_state_41 : decode cX3_state 41 = .ok (.aload_n 0, 1) := by decide +kernel
theorem dX3_state_42 : decode cX3_state 42 = .ok (.getfield 25, 3) := by decide +kernel
theorem dX3_state_45 : decode cX3_state 45 = .ok (.ishr, 1) := by decide +kernel
theorem dX3_state_46 : decode cX3_state 46 = .ok (.iconst 1, 1) := by decide +kernel
theorem dX3_state_47 : decode cX3_state 47 = .ok (.iand, 1) := by decide +kernel
theorem dX3_state_48 : decode cX3_state 48 = .ok (.iconst 1, 1) := by decide +kernel
theorem dX3_state_49 : decode cX3_state 49 = .ok (.ishl, 1) := by decide +kernel
theorem dX3_state_50 : decode cX3_state 50 = .ok (.ior, 1) := by decide +kernel
theorem dX3_state_51 : decode cX3_state 51 = .ok (.ireturn, 1) := by decide +kernel
def fX3_state_23  (g : PH) (v0 : Nat) (s0 : Int32) : Option (Int32 × PH) :=
  (getI g v0 3 4).bind fun x1 =>
  (if x1 = (-1 : Int32) then (some (s0, g)) else
  ((getI g v0 3 1).bind fun x4 =>
  ((getI g v0 3 4).bind fun x6 =>
  (some ((s0 ||| (((x4 >>> (x6 &&& 31)) &&& (1 : Int32)) <<< ((1 : Int32) &&& 31))), g)))))
set_option maxHeartbeats 4000000 in
set_option maxRecDepth 100000 in
theorem bX3_state_23 {K : HK} {E : HE} {r : Int32} {g' : PH}  (C : VC K E 2 cX3_state RX3 (some .int))  {g : PH} {v0 : Nat} {s0 : Int32} (hf : fX3_state_23  g v0 s0 = some (r, g')) : V K E (hRm 0 0 0 0) 2 (hZ K E (some (.int r)) g' 0 0) 0 0 (kS K) g 23 [(0, .ref v0)] [.int s0] := by
  unfold fX3_state_23 at hf
  refine V.istore_n (pc := 23) (L' := [(1, .int s0), (0, .ref v0)]) C dX3_state_23 (by decide) rfl ?_
  refine V.aload_n (pc := 24) C dX3_state_24 1 rfl ?_
  replace hf := ob_some hf
  obtain ⟨x1, h2, hf⟩ := hf
  refine V.getI (pc := 25) C kX3 (k := 4) (by decide) wd_67 h2 dX3_state_25 ?_
  refine V.iconst (pc := 28) C dX3_state_28 (v := (-1 : Int32)) (by decide) ?_
  refine V.icmp_ne (pc := 29) (t := 36) C dX3_state_29 (by decide) (fun c3 => ?_) (fun c3 => ?_)
  · replace hf := ite_f c3 hf
    refine V.iload_n (pc := 36) C dX3_state_36 0 rfl ?_
    refine V.aload_n (pc := 37) C dX3_state_37 1 rfl ?_
    replace hf := ob_some hf
    obtain ⟨x4, h5, hf⟩ := hf
    refine V.getI (pc := 38) C kX3 (k := 1) (by decide) wd_61 h5 dX3_state_38 ?_
    refine V.aload_n (pc := 41) C dX3_state_41 1 rfl ?_
    replace hf := ob_some hf
    obtain ⟨x6, h7, hf⟩ := hf
    refine V.getI (pc := 42) C kX3 (k := 4) (by decide) wd_67 h7 dX3_state_42 ?_
    refine V.ishr (pc := 45) C dX3_state_45 ?_
    refine V.iconst (pc := 46) C dX3_state_46 (v := (1 : Int32)) (by decide) ?_
    refine V.iand (pc := 47) C dX3_state_47 ?_
    refine V.iconst (pc := 48) C dX3_state_48 (v := (1 : Int32)) (by decide) ?_
    refine V.ishl (pc := 49) C dX3_state_49 ?_
    refine V.ior (pc := 50) C dX3_state_50 ?_
    obtain ⟨f1, f2⟩ := fin2 hf
    clear hf
    subst f1
    subst f2
    exact V.iret (pc := 51) C rfl dX3_state_51
  replace hf := ite_t c3 hf
  refine V.iload_n (pc := 32) C dX3_state_32 0 rfl ?_
  refine V.goto (pc := 33) (t := 51) C dX3_state_33 (by decide) ?_
  obtain ⟨f1, f2⟩ := fin2 hf
  clear hf
  subst f1
  subst f2
  exact V.iret (pc := 51) C rfl dX3_state_51
def fX3_state (g : PH) (a0 : Nat) : Option (Int32 × PH) :=
  okb (isO g a0 3) ((getI g a0 3 5).bind fun x1 =>
  (if x1 = (-1 : Int32) then (fX3_state_23 g a0 (0 : Int32)) else
  ((getI g a0 3 1).bind fun x4 =>
  ((getI g a0 3 5).bind fun x6 =>
  (fX3_state_23 g a0 ((x4 >>> (x6 &&& 31)) &&& (1 : Int32)))))))
theorem oX3_state {g : PH} {a0 : Nat} {q : (Int32 × PH)} (h : fX3_state g a0 = some q) : isO g a0 3 = true := by unfold fX3_state at h; exact (okb_some h).1
theorem hyX3_state : hMet yX3_state RX3 cX3_state 2 (some .int) 0 := ⟨wd_176, wd_175, ws_0, wd_3, rfl, by decide +kernel, by decide +kernel, by decide +kernel⟩
set_option maxHeartbeats 4000000 in
set_option maxRecDepth 100000 in
theorem mX3_state (l : Launch) (E : HE) (sz : Nat) {g g' : PH} {a0 : Nat} {r : Int32} (hf : fX3_state g a0 = some (r, g')) : hM l E yX3_state cX3_state 2 (some .int) 0 0 0 0 sz g [.ref a0] (some (.int r)) g' := by
  refine hM.of (by decide) (Nat.le_of_ble_eq_true rfl) (fun K hl C hin hsz => ?_)
  subst hl
  subst hsz
  have C : VC K E 2 cX3_state RX3 (some .int) := C
  unfold fX3_state at hf
  replace hf := okb_some hf
  obtain ⟨ho, hf⟩ := hf
  refine V.start (L' := [(0, .ref a0)]) rfl ?_
  refine V.aload_n (pc := 0) C dX3_state_0 0 rfl ?_
  replace hf := ob_some hf
  obtain ⟨x1, h2, hf⟩ := hf
  refine V.getI (pc := 1) C kX3 (k := 5) (by decide) wd_69 h2 dX3_state_1 ?_
  refine V.iconst (pc := 4) C dX3_state_4 (v := (-1 : Int32)) (by decide) ?_
  refine V.icmp_ne (pc := 5) (t := 12) C dX3_state_5 (by decide) (fun c3 => ?_) (fun c3 => ?_)
  · replace hf := ite_f c3 hf
    refine V.aload_n (pc := 12) C dX3_state_12 0 rfl ?_
    replace hf := ob_some hf
    obtain ⟨x4, h5, hf⟩ := hf
    refine V.getI (pc := 13) C kX3 (k := 1) (by decide) wd_61 h5 dX3_state_13 ?_
    refine V.aload_n (pc := 16) C dX3_state_16 0 rfl ?_
    replace hf := ob_some hf
    obtain ⟨x6, h7, hf⟩ := hf
    refine V.getI (pc := 17) C kX3 (k := 5) (by decide) wd_69 h7 dX3_state_17 ?_
    refine V.ishr (pc := 20) C dX3_state_20 ?_
    refine V.iconst (pc := 21) C dX3_state_21 (v := (1 : Int32)) (by decide) ?_
    refine V.iand (pc := 22) C dX3_state_22 ?_
    refine V.sub (L' := [(0, .ref a0)]) [0] rfl ?_
    exact bX3_state_23 C  hf
  replace hf := ite_t c3 hf
  refine V.iconst (pc := 8) C dX3_state_8 (v := (0 : Int32)) (by decide) ?_
  refine V.goto (pc := 9) (t := 23) C dX3_state_9 (by decide) ?_
  refine V.sub (L' := [(0, .ref a0)]) [0] rfl ?_
  exact bX3_state_23 C  hf
theorem dX3_withBit_0 : decode cX3_withBit 0 = .ok (.iload_n 0, 1) := by decide +kernel
theorem dX3_withBit_1 : decode cX3_withBit 1 = .ok (.iconst 1, 1) := by decide +kernel
theorem dX3_withBit_2 : decode cX3_withBit 2 = .ok (.iload_n 1, 1) := by decide +kernel
theorem dX3_withBit_3 : decode cX3_withBit 3 = .ok (.ishl, 1) := by decide +kernel
theorem dX3_withBit_4 : decode cX3_withBit 4 = .ok (.iconst (-1), 1) := by decide +kernel
theorem dX3_withBit_5 : decode cX3_withBit 5 = .ok (.ixor, 1) := by decide +kernel
theorem dX3_withBit_6 : decode cX3_withBit 6 = .ok (.iand, 1) := by decide +kernel
theorem dX3_withBit_7 : decode cX3_withBit 7 = .ok (.iload_n 2, 1) := by decide +kernel
theorem dX3_withBit_8 : decode cX3_withBit 8 = .ok (.iload_n 1, 1) := by decide +kernel
theorem dX3_withBit_9 : decode cX3_withBit 9 = .ok (.ishl, 1) := by decide +kernel
theorem dX3_withBit_10 : decode cX3_withBit 10 = .ok (.ior, 1) := by decide +kernel
theorem dX3_withBit_11 : decode cX3_withBit 11 = .ok (.ireturn, 1) := by decide +kernel
def fX3_withBit (g : PH) (a0 : Int32) (a1 : Int32) (a2 : Int32) : Option (Int32 × PH) :=
  some (((a0 &&& (((1 : Int32) <<< (a1 &&& 31)) ^^^ (-1 : Int32))) ||| (a2 <<< (a1 &&& 31))), g)
theorem hyX3_withBit : hMetS yX3_withBit cX3_withBit 3 (some .int) 3 := ⟨wd_187, wd_186, wd_3, by decide +kernel, by decide +kernel, by decide +kernel⟩
set_option maxHeartbeats 4000000 in
set_option maxRecDepth 100000 in
theorem mX3_withBit (l : Launch) (E : HE) (sz : Nat) {g g' : PH} {a0 : Int32} {a1 : Int32} {a2 : Int32} {r : Int32} (hf : fX3_withBit g a0 a1 a2 = some (r, g')) : hM l E yX3_withBit cX3_withBit 3 (some .int) 0 0 0 0 sz g [.int a0, .int a1, .int a2] (some (.int r)) g' := by
  refine hM.of (by decide) (Nat.le_of_ble_eq_true rfl) (fun K hl C hin hsz => ?_)
  subst hl
  subst hsz
  have C : VC K E 3 cX3_withBit RX3 (some .int) := C
  unfold fX3_withBit at hf
  refine V.start (L' := [(0, .int a0), (1, .int a1), (2, .int a2)]) rfl ?_
  refine V.iload_n (pc := 0) C dX3_withBit_0 0 rfl ?_
  refine V.iconst (pc := 1) C dX3_withBit_1 (v := (1 : Int32)) (by decide) ?_
  refine V.iload_n (pc := 2) C dX3_withBit_2 1 rfl ?_
  refine V.ishl (pc := 3) C dX3_withBit_3 ?_
  refine V.iconst (pc := 4) C dX3_withBit_4 (v := (-1 : Int32)) (by decide) ?_
  refine V.ixor (pc := 5) C dX3_withBit_5 ?_
  refine V.iand (pc := 6) C dX3_withBit_6 ?_
  refine V.iload_n (pc := 7) C dX3_withBit_7 2 rfl ?_
  refine V.iload_n (pc := 8) C dX3_withBit_8 1 rfl ?_
  refine V.ishl (pc := 9) C dX3_withBit_9 ?_
  refine V.ior (pc := 10) C dX3_withBit_10 ?_
  obtain ⟨f1, f2⟩ := fin2 hf
  clear hf
  subst f1
  subst f2
  exact V.iret (pc := 11) C rfl dX3_withBit_11
theorem dX3_setState_0 : decode cX3_setState 0 = .ok (.aload_n 0, 1) := by decide +kernel
theorem dX3_setState_1 : decode cX3_setState 1 = .ok (.getfield 28, 3) := by decide +kernel
theorem dX3_setState_4 : decode cX3_setState 4 = .ok (.iconst (-1), 1) := by decide +kernel
theorem dX3_setState_5 : decode cX3_setState 5 = .ok (.if_icmp .eq 21, 3) := by decide +kernel
theorem dX3_setState_8 : decode cX3_setState 8 = .ok (.aload_n 0, 1) := by decide +kernel
theorem dX3_setState_9 : decode cX3_setState 9 = .ok (.aload_n 0, 1) := by decide +kernel
theorem dX3_setState_10 : decode cX3_setState 10 = .ok (.getfield 15, 3) := by decide +kernel
theorem dX3_setState_13 : decode cX3_setState 13 = .ok (.aload_n 0, 1) := by decide +kernel
theorem dX3_setState_14 : decode cX3_setState 14 = .ok (.getfield 28, 3) := by decide +kernel
theorem dX3_setState_17 : decode cX3_setState 17 = .ok (.iload_n 1, 1) := by decide +kernel
theorem dX3_setState_18 : decode cX3_setState 18 = .ok (.iconst 1, 1) := by decide +kernel
theorem dX3_setState_19 : decode cX3_setState 19 = .ok (.iand, 1) := by decide +kernel
theorem dX3_setState_20 : decode cX3_setState 20 = .ok (.invokestatic 97, 3) := by decide +kernel
theorem dX3_setState_23 : decode cX3_setState 23 = .ok (.putfield 15, 3) := by decide +kernel
theorem dX3_setState_26 : decode cX3_setState 26 = .ok (.aload_n 0, 1) := by decide +kernel
theorem dX3_setState_27 : decode cX3_setState 27 = .ok (.getfield 25, 3) := by decide +kernel
theorem dX3_setState_30 : decode cX3_setState 30 = .ok (.iconst (-1), 1) := by decide +kernel
theorem dX3_setState_31 : decode cX3_setState 31 = .ok (.if_icmp .eq 23, 3) := by decide +kernel
theorem dX3_setState_34 : decode cX3_setState 34 = .ok (.aload_n 0, 1) := by decide +kernel
theorem dX3_setState_35 : decode cX3_setState 35 = .ok (.aload_n 0, 1) := by decide +kernel
theorem dX3_setState_36 : decode cX3_setState 36 = .ok (.getfield 15, 3) := by decide +kernel
theorem dX3_setState_39 : decode cX3_setState 39 = .ok (.aload_n 0, 1) := by decide +kernel
theorem dX3_setState_40 : decode cX3_setState 40 = .ok (.getfield 25, 3) := by decide +kernel
theorem dX3_setState_43 : decode cX3_setState 43 = .ok (.iload_n 1, 1) := by decide +kernel
theorem dX3_setState_44 : decode cX3_setState 44 = .ok (.iconst 1, 1) := by decide +kernel
theorem dX3_setState_45 : decode cX3_setState 45 = .ok (.ishr, 1) := by decide +kernel
theorem dX3_setState_46 : decode cX3_setState 46 = .ok (.iconst 1, 1) := by decide +kernel
theorem dX3_setState_47 : decode cX3_setState 47 = .ok (.iand, 1) := by decide +kernel
theorem dX3_setState_48 : decode cX3_setState 48 = .ok (.invokestatic 97, 3) := by decide +kernel
theorem dX3_setState_51 : decode cX3_setState 51 = .ok (.putfield 15, 3) := by decide +kernel
theorem dX3_setState_54 : decode cX3_setState 54 = .ok (.return_, 1) := by decide +kernel
def fX3_setState_26  (g : PH) (v0 : Nat) (v1 : Int32) : Option (Unit × PH) :=
  (getI g v0 3 4).bind fun x1 =>
  (if x1 = (-1 : Int32) then (some ((), g)) else
  ((getI g v0 3 1).bind fun x4 =>
  ((getI g v0 3 4).bind fun x6 =>
  ((fX3_withBit g x4 x6 ((v1 >>> ((1 : Int32) &&& 31)) &&& (1 : Int32))).bind fun q8 =>
  ((putV q8.2 v0 3 1 (.int q8.1)).bind fun g10 =>
  (some ((), g10)))))))
set_option maxHeartbeats 4000000 in
set_option maxRecDepth 100000 in
theorem bX3_setState_26 {K : HK} {E : HE} {r : Unit} {g' : PH}  (C : VC K E 2 cX3_setState RX3 none)  {g : PH} {v0 : Nat} {v1 : Int32} (hf : fX3_setState_26  g v0 v1 = some (r, g')) : V K E (hRm 1 22 0 0) 2 (hZ K E none g' 0 0) 0 0 (kS K) g 26 [(0, .ref v0), (1, .int v1)] [] := by
  unfold fX3_setState_26 at hf
  refine V.aload_n (pc := 26) C dX3_setState_26 0 rfl ?_
  replace hf := ob_some hf
  obtain ⟨x1, h2, hf⟩ := hf
  refine V.getI (pc := 27) C kX3 (k := 4) (by decide) wd_67 h2 dX3_setState_27 ?_
  refine V.iconst (pc := 30) C dX3_setState_30 (v := (-1 : Int32)) (by decide) ?_
  refine V.icmp_eq (pc := 31) (t := 54) C dX3_setState_31 (by decide) (fun c3 => ?_) (fun c3 => ?_)
  · replace hf := ite_t c3 hf
    obtain ⟨f1, f2⟩ := fin2 hf
    clear hf
    subst f1
    subst f2
    exact V.vret (pc := 54) C rfl dX3_setState_54
  replace hf := ite_f c3 hf
  refine V.aload_n (pc := 34) C dX3_setState_34 0 rfl ?_
  refine V.aload_n (pc := 35) C dX3_setState_35 0 rfl ?_
  replace hf := ob_some hf
  obtain ⟨x4, h5, hf⟩ := hf
  refine V.getI (pc := 36) C kX3 (k := 1) (by decide) wd_61 h5 dX3_setState_36 ?_
  refine V.aload_n (pc := 39) C dX3_setState_39 0 rfl ?_
  replace hf := ob_some hf
  obtain ⟨x6, h7, hf⟩ := hf
  refine V.getI (pc := 40) C kX3 (k := 4) (by decide) wd_67 h7 dX3_setState_40 ?_
  refine V.iload_n (pc := 43) C dX3_setState_43 1 rfl ?_
  refine V.iconst (pc := 44) C dX3_setState_44 (v := (1 : Int32)) (by decide) ?_
  refine V.ishr (pc := 45) C dX3_setState_45 ?_
  refine V.iconst (pc := 46) C dX3_setState_46 (v := (1 : Int32)) (by decide) ?_
  refine V.iand (pc := 47) C dX3_setState_47 ?_
  replace hf := ob_some hf
  obtain ⟨q8, h9, hf⟩ := hf
  refine V.callS0i (pc := 48) C hyX3_withBit wd_185 (mX3_withBit (r := q8.1) (g' := q8.2) K.2.1 E (kS K) h9) rfl ⟨Nat.le_of_ble_eq_true rfl, Nat.le_of_ble_eq_true rfl⟩ (Nat.le_of_ble_eq_true rfl) dX3_setState_48 ⟨Nat.zero_le _, Nat.zero_le _⟩ rfl ?_
  replace hf := ob_some hf
  obtain ⟨g10, h11, hf⟩ := hf
  refine V.putX (pc := 51) C kX3 (k := 1) (by decide) wd_61 rfl rfl rfl h11 dX3_setState_51 ?_
  obtain ⟨f1, f2⟩ := fin2 hf
  clear hf
  subst f1
  subst f2
  exact V.vret (pc := 54) C rfl dX3_setState_54
def fX3_setState (g : PH) (a0 : Nat) (a1 : Int32) : Option (Unit × PH) :=
  okb (isO g a0 3) ((getI g a0 3 5).bind fun x1 =>
  (if x1 = (-1 : Int32) then (fX3_setState_26 g a0 a1) else
  ((getI g a0 3 1).bind fun x4 =>
  ((getI g a0 3 5).bind fun x6 =>
  ((fX3_withBit g x4 x6 (a1 &&& (1 : Int32))).bind fun q8 =>
  ((putV q8.2 a0 3 1 (.int q8.1)).bind fun g10 =>
  (fX3_setState_26 g10 a0 a1)))))))
theorem oX3_setState {g : PH} {a0 : Nat} {a1 : Int32} {q : (Unit × PH)} (h : fX3_setState g a0 a1 = some q) : isO g a0 3 = true := by unfold fX3_setState at h; exact (okb_some h).1
theorem hyX3_setState : hMet yX3_setState RX3 cX3_setState 2 none 1 := ⟨wd_184, wd_183, ws_1, wd_3, rfl, by decide +kernel, by decide +kernel, by decide +kernel⟩
set_option maxHeartbeats 4000000 in
set_option maxRecDepth 100000 in
theorem mX3_setState (l : Launch) (E : HE) (sz : Nat) {g g' : PH} {a0 : Nat} {a1 : Int32} {r : Unit} (hf : fX3_setState g a0 a1 = some (r, g')) : hM l E yX3_setState cX3_setState 2 none 1 22 0 0 sz g [.ref a0, .int a1] none g' := by
  refine hM.of (by decide) (Nat.le_of_ble_eq_true rfl) (fun K hl C hin hsz => ?_)
  subst hl
  subst hsz
  have C : VC K E 2 cX3_setState RX3 none := C
  unfold fX3_setState at hf
  replace hf := okb_some hf
  obtain ⟨ho, hf⟩ := hf
  refine V.start (L' := [(0, .ref a0), (1, .int a1)]) rfl ?_
  refine V.aload_n (pc := 0) C dX3_setState_0 0 rfl ?_
  replace hf := ob_some hf
  obtain ⟨x1, h2, hf⟩ := hf
  refine V.getI (pc := 1) C kX3 (k := 5) (by decide) wd_69 h2 dX3_setState_1 ?_
  refine V.iconst (pc := 4) C dX3_setState_4 (v := (-1 : Int32)) (by decide) ?_
  refine V.icmp_eq (pc := 5) (t := 26) C dX3_setState_5 (by decide) (fun c3 => ?_) (fun c3 => ?_)
  · replace hf := ite_t c3 hf
    refine V.sub (L' := [(0, .ref a0), (1, .int a1)]) [0, 1] rfl ?_
    exact bX3_setState_26 C  hf
  replace hf := ite_f c3 hf
  refine V.aload_n (pc := 8) C dX3_setState_8 0 rfl ?_
  refine V.aload_n (pc := 9) C dX3_setState_9 0 rfl ?_
  replace hf := ob_some hf
  obtain ⟨x4, h5, hf⟩ := hf
  refine V.getI (pc := 10) C kX3 (k := 1) (by decide) wd_61 h5 dX3_setState_10 ?_
  refine V.aload_n (pc := 13) C dX3_setState_13 0 rfl ?_
  replace hf := ob_some hf
  obtain ⟨x6, h7, hf⟩ := hf
  refine V.getI (pc := 14) C kX3 (k := 5) (by decide) wd_69 h7 dX3_setState_14 ?_
  refine V.iload_n (pc := 17) C dX3_setState_17 1 rfl ?_
  refine V.iconst (pc := 18) C dX3_setState_18 (v := (1 : Int32)) (by decide) ?_
  refine V.iand (pc := 19) C dX3_setState_19 ?_
  replace hf := ob_some hf
  obtain ⟨q8, h9, hf⟩ := hf
  refine V.callS0i (pc := 20) C hyX3_withBit wd_185 (mX3_withBit (r := q8.1) (g' := q8.2) K.2.1 E (kS K) h9) rfl ⟨Nat.le_of_ble_eq_true rfl, Nat.le_of_ble_eq_true rfl⟩ (Nat.le_of_ble_eq_true rfl) dX3_setState_20 ⟨Nat.zero_le _, Nat.zero_le _⟩ rfl ?_
  replace hf := ob_some hf
  obtain ⟨g10, h11, hf⟩ := hf
  refine V.putX (pc := 23) C kX3 (k := 1) (by decide) wd_61 rfl rfl rfl h11 dX3_setState_23 ?_
  refine V.sub (L' := [(0, .ref a0), (1, .int a1)]) [0, 1] rfl ?_
  exact bX3_setState_26 C  hf
theorem dX3_fill_0 : decode cX3_fill 0 = .ok (.aload_n 0, 1) := by decide +kernel
theorem dX3_fill_1 : decode cX3_fill 1 = .ok (.iload_n 1, 1) := by decide +kernel
theorem dX3_fill_2 : decode cX3_fill 2 = .ok (.putfield 15, 3) := by decide +kernel
theorem dX3_fill_5 : decode cX3_fill 5 = .ok (.aload_n 0, 1) := by decide +kernel
theorem dX3_fill_6 : decode cX3_fill 6 = .ok (.getfield 18, 3) := by decide +kernel
theorem dX3_fill_9 : decode cX3_fill 9 = .ok (.ifnull 18, 3) := by decide +kernel
theorem dX3_fill_12 : decode cX3_fill 12 = .ok (.aload_n 0, 1) := by decide +kernel
theorem dX3_fill_13 : decode cX3_fill 13 = .ok (.aload_n 0, 1) := by decide +kernel
theorem dX3_fill_14 : decode cX3_fill 14 = .ok (.getfield 18, 3) := by decide +kernel
theorem dX3_fill_17 : decode cX3_fill 17 = .ok (.aload_n 0, 1) := by decide +kernel
theorem dX3_fill_18 : decode cX3_fill 18 = .ok (.invokevirtual 77, 3) := by decide +kernel
theorem dX3_fill_21 : decode cX3_fill 21 = .ok (.invokevirtual 81, 3) := by decide +kernel
theorem dX3_fill_24 : decode cX3_fill 24 = .ok (.invokevirtual 87, 3) := by decide +kernel
theorem dX3_fill_27 : decode cX3_fill 27 = .ok (.return_, 1) := by decide +kernel
def fX3_fill (g : PH) (a0 : Nat) (a1 : Int32) : Option (Unit × PH) :=
  okb (isO g a0 3) ((putV g a0 3 1 (.int a1)).bind fun g1 =>
  ((getQ g1 a0 3 2).bind fun q3 =>
  (q3.elim (some ((), g1)) (fun p5 =>
  (getQ g1 a0 3 2).bind fun q6 =>
  ((fX3_state g1 a0).bind fun q8 =>
  (q6.bind fun p10 =>
  ((fX1_settledFrom q8.2 p10 q8.1).bind fun q12 =>
  ((fX3_setState q12.2 a0 q12.1).bind fun q14 =>
  (some ((), q14.2))))))))))
theorem oX3_fill {g : PH} {a0 : Nat} {a1 : Int32} {q : (Unit × PH)} (h : fX3_fill g a0 a1 = some q) : isO g a0 3 = true := by unfold fX3_fill at h; exact (okb_some h).1
theorem hyX3_fill : hMet yX3_fill RX3 cX3_fill 2 none 1 := ⟨wd_172, wd_170, wd_171, wd_3, rfl, by decide +kernel, by decide +kernel, by decide +kernel⟩
set_option maxHeartbeats 4000000 in
set_option maxRecDepth 100000 in
theorem mX3_fill (l : Launch) (E : HE) (sz : Nat) {g g' : PH} {a0 : Nat} {a1 : Int32} {r : Unit} (hf : fX3_fill g a0 a1 = some (r, g')) : hM l E yX3_fill cX3_fill 2 none 2 43 0 0 sz g [.ref a0, .int a1] none g' := by
  refine hM.of (by decide) (Nat.le_of_ble_eq_true rfl) (fun K hl C hin hsz => ?_)
  subst hl
  subst hsz
  have C : VC K E 2 cX3_fill RX3 none := C
  unfold fX3_fill at hf
  replace hf := okb_some hf
  obtain ⟨ho, hf⟩ := hf
  refine V.start (L' := [(0, .ref a0), (1, .int a1)]) rfl ?_
  refine V.aload_n (pc := 0) C dX3_fill_0 0 rfl ?_
  refine V.iload_n (pc := 1) C dX3_fill_1 1 rfl ?_
  replace hf := ob_some hf
  obtain ⟨g1, h2, hf⟩ := hf
  refine V.putX (pc := 2) C kX3 (k := 1) (by decide) wd_61 rfl rfl rfl h2 dX3_fill_2 ?_
  refine V.aload_n (pc := 5) C dX3_fill_5 0 rfl ?_
  replace hf := ob_some hf
  obtain ⟨q3, h4, hf⟩ := hf
  refine V.getQ (pc := 6) C kX3 (k := 2) (by decide) wd_63 h4 dX3_fill_6 ?_
  rcases q3 with _ | p5
  · refine V.ifnullN (pc := 9) (t := 27) C dX3_fill_9 (by decide) ?_
    obtain ⟨f1, f2⟩ := fin2 hf
    clear hf
    subst f1
    subst f2
    exact V.vret (pc := 27) C rfl dX3_fill_27
  refine V.ifnull (pc := 9) C dX3_fill_9 ?_
  refine V.aload_n (pc := 12) C dX3_fill_12 0 rfl ?_
  refine V.aload_n (pc := 13) C dX3_fill_13 0 rfl ?_
  replace hf := ob_some hf
  obtain ⟨q6, h7, hf⟩ := hf
  refine V.getQ (pc := 14) C kX3 (k := 2) (by decide) wd_63 h7 dX3_fill_14 ?_
  refine V.aload_n (pc := 17) C dX3_fill_17 0 rfl ?_
  replace hf := ob_some hf
  obtain ⟨q8, h9, hf⟩ := hf
  refine V.callV0i (pc := 18) C hyX3_state wd_173 (mX3_state (r := q8.1) (g' := q8.2) K.2.1 E (kS K) h9) rfl rfl rfl (oX3_state h9) ⟨Nat.le_of_ble_eq_true rfl, Nat.le_of_ble_eq_true rfl⟩ (by cases q6 <;> exact Nat.le_of_ble_eq_true rfl) dX3_fill_18 ⟨Nat.zero_le _, Nat.zero_le _⟩ rfl ?_
  replace hf := ob_some hf
  obtain ⟨p10, h11, hf⟩ := hf
  subst h11
  replace hf := ob_some hf
  obtain ⟨q12, h13, hf⟩ := hf
  refine V.callV0i (pc := 21) C hyX1_settledFrom wd_177 (mX1_settledFrom (r := q12.1) (g' := q12.2) K.2.1 E (kS K) h13) rfl rfl rfl (oX1_settledFrom h13) ⟨Nat.le_of_ble_eq_true rfl, Nat.le_of_ble_eq_true rfl⟩ (Nat.le_of_ble_eq_true rfl) dX3_fill_21 ⟨Nat.zero_le _, Nat.zero_le _⟩ rfl ?_
  replace hf := ob_some hf
  obtain ⟨q14, h15, hf⟩ := hf
  refine V.callV0v (pc := 24) C hyX3_setState wd_181 (mX3_setState (r := q14.1) (g' := q14.2) K.2.1 E (kS K) h15) rfl rfl rfl (oX3_setState h15) ⟨Nat.le_of_ble_eq_true rfl, Nat.le_of_ble_eq_true rfl⟩ (Nat.le_of_ble_eq_true rfl) dX3_fill_24 ⟨Nat.zero_le _, Nat.zero_le _⟩ rfl ?_
  obtain ⟨f1, f2⟩ := fin2 hf
  clear hf
  subst f1
  subst f2
  exact V.vret (pc := 27) C rfl dX3_fill_27
theorem dX3_insert_0 : decode cX3_insert 0 = .ok (.aload_n 0, 1) := by decide +kernel
theorem dX3_insert_1 : decode cX3_insert 1 = .ok (.aload_n 1, 1) := by decide +kernel
theorem dX3_insert_2 : decode cX3_insert 2 = .ok (.putfield 18, 3) := by decide +kernel
theorem dX3_insert_5 : decode cX3_insert 5 = .ok (.aload_n 0, 1) := by decide +kernel
theorem dX3_insert_6 : decode cX3_insert 6 = .ok (.iload_n 2, 1) := by decide +kernel
theorem dX3_insert_7 : decode cX3_insert 7 = .ok (.putfield 22, 3) := by decide +kernel
theorem dX3_insert_10 : decode cX3_insert 10 = .ok (.aload_n 0, 1) := by decide +kernel
theorem dX3_insert_11 : decode cX3_insert 11 = .ok (.iload_n 3, 1) := by decide +kernel
theorem dX3_insert_12 : decode cX3_insert 12 = .ok (.putfield 25, 3) := by decide +kernel
theorem dX3_insert_15 : decode cX3_insert 15 = .ok (.aload_n 0, 1) := by decide +kernel
theorem dX3_insert_16 : decode cX3_insert 16 = .ok (.iload 4, 2) := by decide +kernel
theorem dX3_insert_18 : decode cX3_insert 18 = .ok (.putfield 28, 3) := by decide +kernel
theorem dX3_insert_21 : decode cX3_insert 21 = .ok (.aload_n 0, 1) := by decide +kernel
theorem dX3_insert_22 : decode cX3_insert 22 = .ok (.aload_n 0, 1) := by decide +kernel
theorem dX3_insert_23 : decode cX3_insert 23 = .ok (.getfield 15, 3) := by decide +kernel
theorem dX3_insert_26 : decode cX3_insert 26 = .ok (.invokevirtual 73, 3) := by decide +kernel
theorem dX3_insert_29 : decode cX3_insert 29 = .ok (.return_, 1) := by decide +kernel
def fX3_insert (g : PH) (a0 : Nat) (a1 : Option Nat) (a2 : Int32) (a3 : Int32) (a4 : Int32) : Option (Unit × PH) :=
  okb (isO g a0 3) ((putV g a0 3 2 (va_rf a1)).bind fun g1 =>
  ((putV g1 a0 3 3 (.int a2)).bind fun g3 =>
  ((putV g3 a0 3 4 (.int a3)).bind fun g5 =>
  ((putV g5 a0 3 5 (.int a4)).bind fun g7 =>
  ((getI g7 a0 3 1).bind fun x9 =>
  ((fX3_fill g7 a0 x9).bind fun q11 =>
  (some ((), q11.2))))))))
theorem oX3_insert {g : PH} {a0 : Nat} {a1 : Option Nat} {a2 : Int32} {a3 : Int32} {a4 : Int32} {q : (Unit × PH)} (h : fX3_insert g a0 a1 a2 a3 a4 = some q) : isO g a0 3 = true := by unfold fX3_insert at h; exact (okb_some h).1
theorem hyX3_insert : hMet yX3_insert RX3 cX3_insert 5 none 4 := ⟨wd_168, wd_166, wd_167, wd_3, rfl, by decide +kernel, by decide +kernel, by decide +kernel⟩
set_option maxHeartbeats 4000000 in
set_option maxRecDepth 100000 in
theorem mX3_insert (l : Launch) (E : HE) (sz : Nat) {g g' : PH} {a0 : Nat} {a1 : Option Nat} {a2 : Int32} {a3 : Int32} {a4 : Int32} {r : Unit} (hf : fX3_insert g a0 a1 a2 a3 a4 = some (r, g')) : hM l E yX3_insert cX3_insert 5 none 3 64 0 0 sz g [.ref a0, va_rf a1, .int a2, .int a3, .int a4] none g' := by
  refine hM.of (by decide) (by cases a1 <;> exact Nat.le_of_ble_eq_true rfl) (fun K hl C hin hsz => ?_)
  subst hl
  subst hsz
  have C : VC K E 5 cX3_insert RX3 none := C
  unfold fX3_insert at hf
  replace hf := okb_some hf
  obtain ⟨ho, hf⟩ := hf
  refine V.start (L' := [(0, .ref a0), (1, va_rf a1), (2, .int a2), (3, .int a3), (4, .int a4)]) (by cases a1 <;> rfl) ?_
  refine V.aload_n (pc := 0) C dX3_insert_0 0 rfl ?_
  refine V.aload_nQ (pc := 1) C dX3_insert_1 1 rfl ?_
  replace hf := ob_some hf
  obtain ⟨g1, h2, hf⟩ := hf
  refine V.putX (pc := 2) C kX3 (k := 2) (by decide) wd_63 rfl (by cases a1 <;> rfl) (by cases a1 <;> rfl) h2 dX3_insert_2 ?_
  refine V.aload_n (pc := 5) C dX3_insert_5 0 rfl ?_
  refine V.iload_n (pc := 6) C dX3_insert_6 2 rfl ?_
  replace hf := ob_some hf
  obtain ⟨g3, h4, hf⟩ := hf
  refine V.putX (pc := 7) C kX3 (k := 3) (by decide) wd_65 rfl rfl rfl h4 dX3_insert_7 ?_
  refine V.aload_n (pc := 10) C dX3_insert_10 0 rfl ?_
  refine V.iload_n (pc := 11) C dX3_insert_11 3 rfl ?_
  replace hf := ob_some hf
  obtain ⟨g5, h6, hf⟩ := hf
  refine V.putX (pc := 12) C kX3 (k := 4) (by decide) wd_67 rfl rfl rfl h6 dX3_insert_12 ?_
  refine V.aload_n (pc := 15) C dX3_insert_15 0 rfl ?_
  refine V.iload (pc := 16) C dX3_insert_16 4 rfl ?_
  replace hf := ob_some hf
  obtain ⟨g7, h8, hf⟩ := hf
  refine V.putX (pc := 18) C kX3 (k := 5) (by decide) wd_69 rfl rfl rfl h8 dX3_insert_18 ?_
  refine V.aload_n (pc := 21) C dX3_insert_21 0 rfl ?_
  refine V.aload_n (pc := 22) C dX3_insert_22 0 rfl ?_
  replace hf := ob_some hf
  obtain ⟨x9, h10, hf⟩ := hf
  refine V.getI (pc := 23) C kX3 (k := 1) (by decide) wd_61 h10 dX3_insert_23 ?_
  replace hf := ob_some hf
  obtain ⟨q11, h12, hf⟩ := hf
  refine V.callV0v (pc := 26) C hyX3_fill wd_169 (mX3_fill (r := q11.1) (g' := q11.2) K.2.1 E (kS K) h12) rfl rfl rfl (oX3_fill h12) ⟨Nat.le_of_ble_eq_true rfl, Nat.le_of_ble_eq_true rfl⟩ (Nat.le_of_ble_eq_true rfl) dX3_insert_26 ⟨Nat.zero_le _, Nat.zero_le _⟩ rfl ?_
  obtain ⟨f1, f2⟩ := fin2 hf
  clear hf
  subst f1
  subst f2
  exact V.vret (pc := 29) C rfl dX3_insert_29
theorem dX3_begin_0 : decode cX3_begin 0 = .ok (.aload_n 0, 1) := by decide +kernel
theorem dX3_begin_1 : decode cX3_begin 1 = .ok (.iconst 2, 1) := by decide +kernel
theorem dX3_begin_2 : decode cX3_begin 2 = .ok (.bipush 6, 2) := by decide +kernel
theorem dX3_begin_4 : decode cX3_begin 4 = .ok (.iload_n 1, 1) := by decide +kernel
theorem dX3_begin_5 : decode cX3_begin 5 = .ok (.invokestatic 50, 3) := by decide +kernel
theorem dX3_begin_8 : decode cX3_begin 8 = .ok (.invokestatic 56, 3) := by decide +kernel
theorem dX3_begin_11 : decode cX3_begin 11 = .ok (.putfield 9, 3) := by decide +kernel
theorem dX3_begin_14 : decode cX3_begin 14 = .ok (.iconst 0, 1) := by decide +kernel
theorem dX3_begin_15 : decode cX3_begin 15 = .ok (.istore_n 2, 1) := by decide +kernel
theorem dX3_begin_16 : decode cX3_begin 16 = .ok (.iload_n 2, 1) := by decide +kernel
theorem dX3_begin_17 : decode cX3_begin 17 = .ok (.bipush 6, 2) := by decide +kernel
theorem dX3_begin_19 : decode cX3_begin 19 = .ok (.if_icmp .ge 16, 3) := by decide +kernel
theorem dX3_begin_22 : decode cX3_begin 22 = .ok (.aload_n 0, 1) := by decide +kernel
theorem dX3_begin_23 : decode cX3_begin 23 = .ok (.getfield 43, 3) := by decide +kernel
theorem dX3_begin_26 : decode cX3_begin 26 = .ok (.iload_n 2, 1) := by decide +kernel
theorem dX3_begin_27 : decode cX3_begin 27 = .ok (.iload_n 2, 1) := by decide +kernel
theorem dX3_begin_28 : decode cX3_begin 28 = .ok (.iastore, 1) := by decide +kernel
theorem dX3_begin_29 : decode cX3_begin 29 = .ok (.iinc 2 1, 3) := by decide +kernel
theorem dX3_begin_32 : decode cX3_begin 32 = .ok (.goto (-16), 3) := by decide +kernel
theorem dX3_begin_35 : decode cX3_begin 35 = .ok (.aload_n 0, 1) := by decide +kernel
theorem dX3_begin_36 : decode cX3_begin 36 = .ok (.iconst 0, 1) := by decide +kernel
theorem dX3_begin_37 : decode cX3_begin 37 = .ok (.putfield 15, 3) := by decide +kernel
theorem dX3_begin_40 : decode cX3_begin 40 = .ok (.aload_n 0, 1) := by decide +kernel
theorem dX3_begin_41 : decode cX3_begin 41 = .ok (.iconst (-1), 1) := by decide +kernel
theorem dX3_begin_42 : decode cX3_begin 42 = .ok (.putfield 31, 3) := by decide +kernel
theorem dX3_begin_45 : decode cX3_begin 45 = .ok (.aload_n 0, 1) := by decide +kernel
theorem dX3_begin_46 : decode cX3_begin 46 = .ok (.iconst (-1), 1) := by decide +kernel
theorem dX3_begin_47 : decode cX3_begin 47 = .ok (.putfield 37, 3) := by decide +kernel
theorem dX3_begin_50 : decode cX3_begin 50 = .ok (.aload_n 0, 1) := by decide +kernel
theorem dX3_begin_51 : decode cX3_begin 51 = .ok (.iconst 0, 1) := by decide +kernel
theorem dX3_begin_52 : decode cX3_begin 52 = .ok (.putfield 40, 3) := by decide +kernel
theorem dX3_begin_55 : decode cX3_begin 55 = .ok (.aload_n 0, 1) := by decide +kernel
theorem dX3_begin_56 : decode cX3_begin 56 = .ok (.aconst_null, 1) := by decide +kernel
theorem dX3_begin_57 : decode cX3_begin 57 = .ok (.iconst (-1), 1) := by decide +kernel
theorem dX3_begin_58 : decode cX3_begin 58 = .ok (.iconst (-1), 1) := by decide +kernel
theorem dX3_begin_59 : decode cX3_begin 59 = .ok (.iconst (-1), 1) := by decide +kernel
theorem dX3_begin_60 : decode cX3_begin 60 = .ok (.invokevirtual 59, 3) := by decide +kernel
theorem dX3_begin_63 : decode cX3_begin 63 = .ok (.return_, 1) := by decide +kernel
def fX3_begin_16  : Nat → PH → Nat → Int32 → Option (Unit × PH)
  | 0, _, _, _ => none
  | n + 1, g, v0, v2 =>
  if (6 : Int32) ≤ v2 then ((putV g v0 3 1 (.int (0 : Int32))).bind fun g2 =>
  ((putV g2 v0 3 6 (.int (-1 : Int32))).bind fun g4 =>
  ((putV g4 v0 3 8 (.int (-1 : Int32))).bind fun g6 =>
  ((putV g6 v0 3 9 (.int (0 : Int32))).bind fun g8 =>
  ((fX3_insert g8 v0 none (-1 : Int32) (-1 : Int32) (-1 : Int32)).bind fun q10 =>
  (some ((), q10.2))))))) else
  ((getR g v0 3 10).bind fun p12 =>
  ((stI g p12 0 v2 v2).bind fun g14 =>
  (fX3_begin_16 n g14 v0 (v2 + (1 : Int32)))))
set_option maxHeartbeats 4000000 in
set_option maxRecDepth 100000 in
theorem bX3_begin_16 {K : HK} {E : HE} {r : Unit} {g' : PH}  (C : VC K E 3 cX3_begin RX3 none)  : ∀ (n : Nat) (g : PH) (v0 : Nat) (v2 : Int32), fX3_begin_16  n g v0 v2 = some (r, g') → V K E (hRm 4 88 0 0) 3 (hZ K E none g' 0 0) 0 0 (kS K) g 16 [(0, .ref v0), (2, .int v2)] [] := by
  intro n
  induction n with
  | zero =>
    intro g v0 v2 hf
    rw [fX3_begin_16] at hf
    cases hf
  | succ n ih =>
    intro g v0 v2 hf
    rw [fX3_begin_16] at hf
    refine V.iload_n (pc := 16) C dX3_begin_16 1 rfl ?_
    refine V.bipush (pc := 17) C dX3_begin_17 (v := (6 : Int32)) (by decide) ?_
    refine V.icmp_ge (pc := 19) (t := 35) C dX3_begin_19 (by decide) (fun c1 => ?_) (fun c1 => ?_)
    · replace hf := ite_t c1 hf
      refine V.aload_n (pc := 35) C dX3_begin_35 0 rfl ?_
      refine V.iconst (pc := 36) C dX3_begin_36 (v := (0 : Int32)) (by decide) ?_
      replace hf := ob_some hf
      obtain ⟨g2, h3, hf⟩ := hf
      refine V.putX (pc := 37) C kX3 (k := 1) (by decide) wd_61 rfl rfl rfl h3 dX3_begin_37 ?_
      refine V.aload_n (pc := 40) C dX3_begin_40 0 rfl ?_
      refine V.iconst (pc := 41) C dX3_begin_41 (v := (-1 : Int32)) (by decide) ?_
      replace hf := ob_some hf
      obtain ⟨g4, h5, hf⟩ := hf
      refine V.putX (pc := 42) C kX3 (k := 6) (by decide) wd_71 rfl rfl rfl h5 dX3_begin_42 ?_
      refine V.aload_n (pc := 45) C dX3_begin_45 0 rfl ?_
      refine V.iconst (pc := 46) C dX3_begin_46 (v := (-1 : Int32)) (by decide) ?_
      replace hf := ob_some hf
      obtain ⟨g6, h7, hf⟩ := hf
      refine V.putX (pc := 47) C kX3 (k := 8) (by decide) wd_75 rfl rfl rfl h7 dX3_begin_47 ?_
      refine V.aload_n (pc := 50) C dX3_begin_50 0 rfl ?_
      refine V.iconst (pc := 51) C dX3_begin_51 (v := (0 : Int32)) (by decide) ?_
      replace hf := ob_some hf
      obtain ⟨g8, h9, hf⟩ := hf
      refine V.putX (pc := 52) C kX3 (k := 9) (by decide) wd_77 rfl rfl rfl h9 dX3_begin_52 ?_
      refine V.aload_n (pc := 55) C dX3_begin_55 0 rfl ?_
      refine V.null (pc := 56) C dX3_begin_56 ?_
      refine V.iconst (pc := 57) C dX3_begin_57 (v := (-1 : Int32)) (by decide) ?_
      refine V.iconst (pc := 58) C dX3_begin_58 (v := (-1 : Int32)) (by decide) ?_
      refine V.iconst (pc := 59) C dX3_begin_59 (v := (-1 : Int32)) (by decide) ?_
      replace hf := ob_some hf
      obtain ⟨q10, h11, hf⟩ := hf
      refine V.callV0v (pc := 60) C hyX3_insert wd_165 (mX3_insert (r := q10.1) (g' := q10.2) K.2.1 E (kS K) h11) rfl rfl rfl (oX3_insert h11) ⟨Nat.le_of_ble_eq_true rfl, Nat.le_of_ble_eq_true rfl⟩ (Nat.le_of_ble_eq_true rfl) dX3_begin_60 ⟨Nat.zero_le _, Nat.zero_le _⟩ rfl ?_
      obtain ⟨f1, f2⟩ := fin2 hf
      clear hf
      subst f1
      subst f2
      exact V.vret (pc := 63) C rfl dX3_begin_63
    replace hf := ite_f c1 hf
    refine V.aload_n (pc := 22) C dX3_begin_22 0 rfl ?_
    replace hf := ob_some hf
    obtain ⟨p12, h13, hf⟩ := hf
    refine V.getR (pc := 23) C kX3 (k := 10) (by decide) wd_79 h13 dX3_begin_23 ?_
    refine V.iload_n (pc := 26) C dX3_begin_26 1 rfl ?_
    refine V.iload_n (pc := 27) C dX3_begin_27 1 rfl ?_
    replace hf := ob_some hf
    obtain ⟨g14, h15, hf⟩ := hf
    refine V.iast (pc := 28) C h15 dX3_begin_28 ?_
    refine V.iinc (pc := 29) (v := (v2 + (1 : Int32))) (L' := [(2, .int (v2 + (1 : Int32))), (0, .ref v0)]) C dX3_begin_29 1 rfl rfl (by decide) rfl ?_
    refine V.goto (pc := 32) (t := 16) C dX3_begin_32 (by decide) ?_
    refine V.sub (L' := [(0, .ref v0), (2, .int (v2 + (1 : Int32)))]) [1, 0] rfl ?_
    exact ih _ _ _ hf
def fX3_begin (g : PH) (a0 : Nat) (a1 : Int32) : Option (Unit × PH) :=
  okb (isO g a0 3) ((putV g a0 3 0 (.int (if (2 : Int32) < (if a1 < (6 : Int32) then a1 else (6 : Int32)) then (if a1 < (6 : Int32) then a1 else (6 : Int32)) else (2 : Int32)))).bind fun g1 =>
  (fX3_begin_16 FUEL g1 a0 (0 : Int32)))
theorem oX3_begin {g : PH} {a0 : Nat} {a1 : Int32} {q : (Unit × PH)} (h : fX3_begin g a0 a1 = some q) : isO g a0 3 = true := by unfold fX3_begin at h; exact (okb_some h).1
theorem hyX3_begin : hMet yX3_begin RX3 cX3_begin 3 none 1 := ⟨wd_158, wd_156, wd_157, wd_3, rfl, by decide +kernel, by decide +kernel, by decide +kernel⟩
set_option maxHeartbeats 4000000 in
set_option maxRecDepth 100000 in
theorem mX3_begin (l : Launch) (E : HE) (sz : Nat) {g g' : PH} {a0 : Nat} {a1 : Int32} {r : Unit} (hf : fX3_begin g a0 a1 = some (r, g')) : hM l E yX3_begin cX3_begin 3 none 4 88 0 0 sz g [.ref a0, .int a1] none g' := by
  refine hM.of (by decide) (Nat.le_of_ble_eq_true rfl) (fun K hl C hin hsz => ?_)
  subst hl
  subst hsz
  have C : VC K E 3 cX3_begin RX3 none := C
  unfold fX3_begin at hf
  replace hf := okb_some hf
  obtain ⟨ho, hf⟩ := hf
  refine V.start (L' := [(0, .ref a0), (1, .int a1)]) rfl ?_
  refine V.aload_n (pc := 0) C dX3_begin_0 0 rfl ?_
  refine V.iconst (pc := 1) C dX3_begin_1 (v := (2 : Int32)) (by decide) ?_
  refine V.bipush (pc := 2) C dX3_begin_2 (v := (6 : Int32)) (by decide) ?_
  refine V.iload_n (pc := 4) C dX3_begin_4 1 rfl ?_
  refine V.mmin (pc := 5) C wd_159 wd_160 wd_6 wd_161 ⟨Nat.le_of_ble_eq_true rfl, Nat.le_of_ble_eq_true rfl⟩ (Nat.le_of_ble_eq_true rfl) ⟨Nat.zero_le _, Nat.zero_le _⟩ dX3_begin_5 ?_
  refine V.mmax (pc := 8) C wd_162 wd_163 wd_6 wd_164 ⟨Nat.le_of_ble_eq_true rfl, Nat.le_of_ble_eq_true rfl⟩ (Nat.le_of_ble_eq_true rfl) ⟨Nat.zero_le _, Nat.zero_le _⟩ dX3_begin_8 ?_
  replace hf := ob_some hf
  obtain ⟨g1, h2, hf⟩ := hf
  refine V.putX (pc := 11) C kX3 (k := 0) (by decide) wd_59 rfl rfl rfl h2 dX3_begin_11 ?_
  refine V.iconst (pc := 14) C dX3_begin_14 (v := (0 : Int32)) (by decide) ?_
  refine V.istore_n (pc := 15) (L' := [(2, .int (0 : Int32)), (0, .ref a0), (1, .int a1)]) C dX3_begin_15 (by decide) rfl ?_
  refine V.sub (L' := [(0, .ref a0), (2, .int (0 : Int32))]) [1, 0] rfl ?_
  exact bX3_begin_16 C  _ _ _ _ hf
theorem dX3_hasCell_0 : decode cX3_hasCell 0 = .ok (.iload_n 1, 1) := by decide +kernel
theorem dX3_hasCell_1 : decode cX3_hasCell 1 = .ok (.ifCond .lt 15, 3) := by decide +kernel
theorem dX3_hasCell_4 : decode cX3_hasCell 4 = .ok (.iload_n 1, 1) := by decide +kernel
theorem dX3_hasCell_5 : decode cX3_hasCell 5 = .ok (.aload_n 0, 1) := by decide +kernel
theorem dX3_hasCell_6 : decode cX3_hasCell 6 = .ok (.getfield 9, 3) := by decide +kernel
theorem dX3_hasCell_9 : decode cX3_hasCell 9 = .ok (.if_icmp .ge 7, 3) := by decide +kernel
theorem dX3_hasCell_12 : decode cX3_hasCell 12 = .ok (.iconst 1, 1) := by decide +kernel
theorem dX3_hasCell_13 : decode cX3_hasCell 13 = .ok (.goto 4, 3) := by decide +kernel
theorem dX3_hasCell_16 : decode cX3_hasCell 16 = .ok (.iconst 0, 1) := by decide +kernel
theorem dX3_hasCell_17 : decode cX3_hasCell 17 = .ok (.ireturn, 1) := by decide +kernel
def fX3_hasCell (g : PH) (a0 : Nat) (a1 : Int32) : Option (Int32 × PH) :=
  okb (isO g a0 3) (if a1 < 0 then (some ((0 : Int32), g)) else
  ((getI g a0 3 0).bind fun x2 =>
  (if x2 ≤ a1 then (some ((0 : Int32), g)) else
  (some ((1 : Int32), g)))))
theorem oX3_hasCell {g : PH} {a0 : Nat} {a1 : Int32} {q : (Int32 × PH)} (h : fX3_hasCell g a0 a1 = some q) : isO g a0 3 = true := by unfold fX3_hasCell at h; exact (okb_some h).1
theorem hyX3_hasCell : hMet yX3_hasCell RX3 cX3_hasCell 2 (some .boolean) 1 := ⟨wd_833, wd_831, wd_832, wd_3, rfl, by decide +kernel, by decide +kernel, by decide +kernel⟩
set_option maxHeartbeats 4000000 in
set_option maxRecDepth 100000 in
theorem mX3_hasCell (l : Launch) (E : HE) (sz : Nat) {g g' : PH} {a0 : Nat} {a1 : Int32} {r : Int32} (hf : fX3_hasCell g a0 a1 = some (r, g')) : hM l E yX3_hasCell cX3_hasCell 2 (some .boolean) 0 0 0 0 sz g [.ref a0, .int a1] (some (.int r)) g' := by
  refine hM.of (by decide) (Nat.le_of_ble_eq_true rfl) (fun K hl C hin hsz => ?_)
  subst hl
  subst hsz
  have C : VC K E 2 cX3_hasCell RX3 (some .boolean) := C
  unfold fX3_hasCell at hf
  replace hf := okb_some hf
  obtain ⟨ho, hf⟩ := hf
  refine V.start (L' := [(0, .ref a0), (1, .int a1)]) rfl ?_
  refine V.iload_n (pc := 0) C dX3_hasCell_0 1 rfl ?_
  refine V.if_lt (pc := 1) (t := 16) C dX3_hasCell_1 (by decide) (fun c1 => ?_) (fun c1 => ?_)
  · replace hf := ite_t c1 hf
    refine V.iconst (pc := 16) C dX3_hasCell_16 (v := (0 : Int32)) (by decide) ?_
    obtain ⟨f1, f2⟩ := fin2 hf
    clear hf
    subst f1
    subst f2
    exact V.zret (pc := 17) C rfl rfl dX3_hasCell_17
  replace hf := ite_f c1 hf
  refine V.iload_n (pc := 4) C dX3_hasCell_4 1 rfl ?_
  refine V.aload_n (pc := 5) C dX3_hasCell_5 0 rfl ?_
  replace hf := ob_some hf
  obtain ⟨x2, h3, hf⟩ := hf
  refine V.getI (pc := 6) C kX3 (k := 0) (by decide) wd_59 h3 dX3_hasCell_6 ?_
  refine V.icmp_ge (pc := 9) (t := 16) C dX3_hasCell_9 (by decide) (fun c4 => ?_) (fun c4 => ?_)
  · replace hf := ite_t c4 hf
    refine V.iconst (pc := 16) C dX3_hasCell_16 (v := (0 : Int32)) (by decide) ?_
    obtain ⟨f1, f2⟩ := fin2 hf
    clear hf
    subst f1
    subst f2
    exact V.zret (pc := 17) C rfl rfl dX3_hasCell_17
  replace hf := ite_f c4 hf
  refine V.iconst (pc := 12) C dX3_hasCell_12 (v := (1 : Int32)) (by decide) ?_
  refine V.goto (pc := 13) (t := 17) C dX3_hasCell_13 (by decide) ?_
  obtain ⟨f1, f2⟩ := fin2 hf
  clear hf
  subst f1
  subst f2
  exact V.zret (pc := 17) C rfl rfl dX3_hasCell_17
theorem dX3_cellOf_0 : decode cX3_cellOf 0 = .ok (.iload_n 1, 1) := by decide +kernel
theorem dX3_cellOf_1 : decode cX3_cellOf 1 = .ok (.ifCond .lt 18, 3) := by decide +kernel
theorem dX3_cellOf_4 : decode cX3_cellOf 4 = .ok (.iload_n 1, 1) := by decide +kernel
theorem dX3_cellOf_5 : decode cX3_cellOf 5 = .ok (.bipush 6, 2) := by decide +kernel
theorem dX3_cellOf_7 : decode cX3_cellOf 7 = .ok (.if_icmp .ge 12, 3) := by decide +kernel
theorem dX3_cellOf_10 : decode cX3_cellOf 10 = .ok (.aload_n 0, 1) := by decide +kernel
theorem dX3_cellOf_11 : decode cX3_cellOf 11 = .ok (.getfield 43, 3) := by decide +kernel
theorem dX3_cellOf_14 : decode cX3_cellOf 14 = .ok (.iload_n 1, 1) := by decide +kernel
theorem dX3_cellOf_15 : decode cX3_cellOf 15 = .ok (.iaload, 1) := by decide +kernel
theorem dX3_cellOf_16 : decode cX3_cellOf 16 = .ok (.goto 4, 3) := by decide +kernel
theorem dX3_cellOf_19 : decode cX3_cellOf 19 = .ok (.iconst (-1), 1) := by decide +kernel
theorem dX3_cellOf_20 : decode cX3_cellOf 20 = .ok (.ireturn, 1) := by decide +kernel
def fX3_cellOf (g : PH) (a0 : Nat) (a1 : Int32) : Option (Int32 × PH) :=
  okb (isO g a0 3) (if a1 < 0 then (some ((-1 : Int32), g)) else
  (if (6 : Int32) ≤ a1 then (some ((-1 : Int32), g)) else
  ((getR g a0 3 10).bind fun p3 =>
  ((ldI g p3 0 a1).bind fun x5 =>
  (some (x5, g))))))
theorem oX3_cellOf {g : PH} {a0 : Nat} {a1 : Int32} {q : (Int32 × PH)} (h : fX3_cellOf g a0 a1 = some q) : isO g a0 3 = true := by unfold fX3_cellOf at h; exact (okb_some h).1
theorem hyX3_cellOf : hMet yX3_cellOf RX3 cX3_cellOf 2 (some .int) 1 := ⟨wd_868, wd_866, wd_867, wd_3, rfl, by decide +kernel, by decide +kernel, by decide +kernel⟩
set_option maxHeartbeats 4000000 in
set_option maxRecDepth 100000 in
theorem mX3_cellOf (l : Launch) (E : HE) (sz : Nat) {g g' : PH} {a0 : Nat} {a1 : Int32} {r : Int32} (hf : fX3_cellOf g a0 a1 = some (r, g')) : hM l E yX3_cellOf cX3_cellOf 2 (some .int) 0 0 0 0 sz g [.ref a0, .int a1] (some (.int r)) g' := by
  refine hM.of (by decide) (Nat.le_of_ble_eq_true rfl) (fun K hl C hin hsz => ?_)
  subst hl
  subst hsz
  have C : VC K E 2 cX3_cellOf RX3 (some .int) := C
  unfold fX3_cellOf at hf
  replace hf := okb_some hf
  obtain ⟨ho, hf⟩ := hf
  refine V.start (L' := [(0, .ref a0), (1, .int a1)]) rfl ?_
  refine V.iload_n (pc := 0) C dX3_cellOf_0 1 rfl ?_
  refine V.if_lt (pc := 1) (t := 19) C dX3_cellOf_1 (by decide) (fun c1 => ?_) (fun c1 => ?_)
  · replace hf := ite_t c1 hf
    refine V.iconst (pc := 19) C dX3_cellOf_19 (v := (-1 : Int32)) (by decide) ?_
    obtain ⟨f1, f2⟩ := fin2 hf
    clear hf
    subst f1
    subst f2
    exact V.iret (pc := 20) C rfl dX3_cellOf_20
  replace hf := ite_f c1 hf
  refine V.iload_n (pc := 4) C dX3_cellOf_4 1 rfl ?_
  refine V.bipush (pc := 5) C dX3_cellOf_5 (v := (6 : Int32)) (by decide) ?_
  refine V.icmp_ge (pc := 7) (t := 19) C dX3_cellOf_7 (by decide) (fun c2 => ?_) (fun c2 => ?_)
  · replace hf := ite_t c2 hf
    refine V.iconst (pc := 19) C dX3_cellOf_19 (v := (-1 : Int32)) (by decide) ?_
    obtain ⟨f1, f2⟩ := fin2 hf
    clear hf
    subst f1
    subst f2
    exact V.iret (pc := 20) C rfl dX3_cellOf_20
  replace hf := ite_f c2 hf
  refine V.aload_n (pc := 10) C dX3_cellOf_10 0 rfl ?_
  replace hf := ob_some hf
  obtain ⟨p3, h4, hf⟩ := hf
  refine V.getR (pc := 11) C kX3 (k := 10) (by decide) wd_79 h4 dX3_cellOf_11 ?_
  refine V.iload_n (pc := 14) C dX3_cellOf_14 1 rfl ?_
  replace hf := ob_some hf
  obtain ⟨x5, h6, hf⟩ := hf
  refine V.iald (pc := 15) C h6 dX3_cellOf_15 ?_
  refine V.goto (pc := 16) (t := 20) C dX3_cellOf_16 (by decide) ?_
  obtain ⟨f1, f2⟩ := fin2 hf
  clear hf
  subst f1
  subst f2
  exact V.iret (pc := 20) C rfl dX3_cellOf_20
theorem dX3_addressOf_0 : decode cX3_addressOf 0 = .ok (.iconst 0, 1) := by decide +kernel
theorem dX3_addressOf_1 : decode cX3_addressOf 1 = .ok (.istore_n 2, 1) := by decide +kernel
theorem dX3_addressOf_2 : decode cX3_addressOf 2 = .ok (.iload_n 2, 1) := by decide +kernel
theorem dX3_addressOf_3 : decode cX3_addressOf 3 = .ok (.bipush 6, 2) := by decide +kernel
theorem dX3_addressOf_5 : decode cX3_addressOf 5 = .ok (.if_icmp .ge 21, 3) := by decide +kernel
theorem dX3_addressOf_8 : decode cX3_addressOf 8 = .ok (.aload_n 0, 1) := by decide +kernel
theorem dX3_addressOf_9 : decode cX3_addressOf 9 = .ok (.getfield 43, 3) := by decide +kernel
theorem dX3_addressOf_12 : decode cX3_addressOf 12 = .ok (.iload_n 2, 1) := by decide +kernel
theorem dX3_addressOf_13 : decode cX3_addressOf 13 = .ok (.iaload, 1) := by decide +kernel
theorem dX3_addressOf_14 : decode cX3_addressOf 14 = .ok (.iload_n 1, 1) := by decide +kernel
theorem dX3_addressOf_15 : decode cX3_addressOf 15 = .ok (.if_icmp .ne 5, 3) := by decide +kernel
theorem dX3_addressOf_18 : decode cX3_addressOf 18 = .ok (.iload_n 2, 1) := by decide +kernel
theorem dX3_addressOf_19 : decode cX3_addressOf 19 = .ok (.ireturn, 1) := by decide +kernel
theorem dX3_addressOf_20 : decode cX3_addressOf 20 = .ok (.iinc 2 1, 3) := by decide +kernel
theorem dX3_addressOf_23 : decode cX3_addressOf 23 = .ok (.goto (-21), 3) := by decide +kernel
theorem dX3_addressOf_26 : decode cX3_addressOf 26 = .ok (.iconst (-1), 1) := by decide +kernel
theorem dX3_addressOf_27 : decode cX3_addressOf 27 = .ok (.ireturn, 1) := by decide +kernel
def fX3_addressOf_2  : Nat → PH → Nat → Int32 → Int32 → Option (Int32 × PH)
  | 0, _, _, _, _ => none
  | n + 1, g, v0, v1, v2 =>
  if (6 : Int32) ≤ v2 then (some ((-1 : Int32), g)) else
  ((getR g v0 3 10).bind fun p2 =>
  ((ldI g p2 0 v2).bind fun x4 =>
  (if x4 = v1 then (some (v2, g)) else
  (fX3_addressOf_2 n g v0 v1 (v2 + (1 : Int32))))))
set_option maxHeartbeats 4000000 in
set_option maxRecDepth 100000 in
theorem bX3_addressOf_2 {K : HK} {E : HE} {r : Int32} {g' : PH}  (C : VC K E 3 cX3_addressOf RX3 (some .int))  : ∀ (n : Nat) (g : PH) (v0 : Nat) (v1 : Int32) (v2 : Int32), fX3_addressOf_2  n g v0 v1 v2 = some (r, g') → V K E (hRm 0 0 0 0) 3 (hZ K E (some (.int r)) g' 0 0) 0 0 (kS K) g 2 [(0, .ref v0), (1, .int v1), (2, .int v2)] [] := by
  intro n
  induction n with
  | zero =>
    intro g v0 v1 v2 hf
    rw [fX3_addressOf_2] at hf
    cases hf
  | succ n ih =>
    intro g v0 v1 v2 hf
    rw [fX3_addressOf_2] at hf
    refine V.iload_n (pc := 2) C dX3_addressOf_2 2 rfl ?_
    refine V.bipush (pc := 3) C dX3_addressOf_3 (v := (6 : Int32)) (by decide) ?_
    refine V.icmp_ge (pc := 5) (t := 26) C dX3_addressOf_5 (by decide) (fun c1 => ?_) (fun c1 => ?_)
    · replace hf := ite_t c1 hf
      refine V.iconst (pc := 26) C dX3_addressOf_26 (v := (-1 : Int32)) (by decide) ?_
      obtain ⟨f1, f2⟩ := fin2 hf
      clear hf
      subst f1
      subst f2
      exact V.iret (pc := 27) C rfl dX3_addressOf_27
    replace hf := ite_f c1 hf
    refine V.aload_n (pc := 8) C dX3_addressOf_8 0 rfl ?_
    replace hf := ob_some hf
    obtain ⟨p2, h3, hf⟩ := hf
    refine V.getR (pc := 9) C kX3 (k := 10) (by decide) wd_79 h3 dX3_addressOf_9 ?_
    refine V.iload_n (pc := 12) C dX3_addressOf_12 2 rfl ?_
    replace hf := ob_some hf
    obtain ⟨x4, h5, hf⟩ := hf
    refine V.iald (pc := 13) C h5 dX3_addressOf_13 ?_
    refine V.iload_n (pc := 14) C dX3_addressOf_14 1 rfl ?_
    refine V.icmp_ne (pc := 15) (t := 20) C dX3_addressOf_15 (by decide) (fun c6 => ?_) (fun c6 => ?_)
    · replace hf := ite_f c6 hf
      refine V.iinc (pc := 20) (v := (v2 + (1 : Int32))) (L' := [(2, .int (v2 + (1 : Int32))), (0, .ref v0), (1, .int v1)]) C dX3_addressOf_20 2 rfl rfl (by decide) rfl ?_
      refine V.goto (pc := 23) (t := 2) C dX3_addressOf_23 (by decide) ?_
      refine V.sub (L' := [(0, .ref v0), (1, .int v1), (2, .int (v2 + (1 : Int32)))]) [1, 2, 0] rfl ?_
      exact ih _ _ _ _ hf
    replace hf := ite_t c6 hf
    refine V.iload_n (pc := 18) C dX3_addressOf_18 2 rfl ?_
    obtain ⟨f1, f2⟩ := fin2 hf
    clear hf
    subst f1
    subst f2
    exact V.iret (pc := 19) C rfl dX3_addressOf_19
def fX3_addressOf (g : PH) (a0 : Nat) (a1 : Int32) : Option (Int32 × PH) :=
  okb (isO g a0 3) (fX3_addressOf_2 FUEL g a0 a1 (0 : Int32))
theorem oX3_addressOf {g : PH} {a0 : Nat} {a1 : Int32} {q : (Int32 × PH)} (h : fX3_addressOf g a0 a1 = some q) : isO g a0 3 = true := by unfold fX3_addressOf at h; exact (okb_some h).1
theorem hyX3_addressOf : hMet yX3_addressOf RX3 cX3_addressOf 3 (some .int) 1 := ⟨wd_650, wd_648, wd_649, wd_3, rfl, by decide +kernel, by decide +kernel, by decide +kernel⟩
set_option maxHeartbeats 4000000 in
set_option maxRecDepth 100000 in
theorem mX3_addressOf (l : Launch) (E : HE) (sz : Nat) {g g' : PH} {a0 : Nat} {a1 : Int32} {r : Int32} (hf : fX3_addressOf g a0 a1 = some (r, g')) : hM l E yX3_addressOf cX3_addressOf 3 (some .int) 0 0 0 0 sz g [.ref a0, .int a1] (some (.int r)) g' := by
  refine hM.of (by decide) (Nat.le_of_ble_eq_true rfl) (fun K hl C hin hsz => ?_)
  subst hl
  subst hsz
  have C : VC K E 3 cX3_addressOf RX3 (some .int) := C
  unfold fX3_addressOf at hf
  replace hf := okb_some hf
  obtain ⟨ho, hf⟩ := hf
  refine V.start (L' := [(0, .ref a0), (1, .int a1)]) rfl ?_
  refine V.iconst (pc := 0) C dX3_addressOf_0 (v := (0 : Int32)) (by decide) ?_
  refine V.istore_n (pc := 1) (L' := [(2, .int (0 : Int32)), (0, .ref a0), (1, .int a1)]) C dX3_addressOf_1 (by decide) rfl ?_
  refine V.sub (L' := [(0, .ref a0), (1, .int a1), (2, .int (0 : Int32))]) [1, 2, 0] rfl ?_
  exact bX3_addressOf_2 C  _ _ _ _ _ hf
theorem dX3_exchange_0 : decode cX3_exchange 0 = .ok (.aload_n 0, 1) := by decide +kernel
theorem dX3_exchange_1 : decode cX3_exchange 1 = .ok (.iload_n 1, 1) := by decide +kernel
theorem dX3_exchange_2 : decode cX3_exchange 2 = .ok (.invokevirtual 69, 3) := by decide +kernel
theorem dX3_exchange_5 : decode cX3_exchange 5 = .ok (.ifCond .eq 37, 3) := by decide +kernel
theorem dX3_exchange_8 : decode cX3_exchange 8 = .ok (.aload_n 0, 1) := by decide +kernel
theorem dX3_exchange_9 : decode cX3_exchange 9 = .ok (.iload_n 2, 1) := by decide +kernel
theorem dX3_exchange_10 : decode cX3_exchange 10 = .ok (.invokevirtual 69, 3) := by decide +kernel
theorem dX3_exchange_13 : decode cX3_exchange 13 = .ok (.ifCond .eq 29, 3) := by decide +kernel
theorem dX3_exchange_16 : decode cX3_exchange 16 = .ok (.aload_n 0, 1) := by decide +kernel
theorem dX3_exchange_17 : decode cX3_exchange 17 = .ok (.getfield 43, 3) := by decide +kernel
theorem dX3_exchange_20 : decode cX3_exchange 20 = .ok (.iload_n 1, 1) := by decide +kernel
theorem dX3_exchange_21 : decode cX3_exchange 21 = .ok (.iaload, 1) := by decide +kernel
theorem dX3_exchange_22 : decode cX3_exchange 22 = .ok (.istore_n 3, 1) := by decide +kernel
theorem dX3_exchange_23 : decode cX3_exchange 23 = .ok (.aload_n 0, 1) := by decide +kernel
theorem dX3_exchange_24 : decode cX3_exchange 24 = .ok (.getfield 43, 3) := by decide +kernel
theorem dX3_exchange_27 : decode cX3_exchange 27 = .ok (.iload_n 1, 1) := by decide +kernel
theorem dX3_exchange_28 : decode cX3_exchange 28 = .ok (.aload_n 0, 1) := by decide +kernel
theorem dX3_exchange_29 : decode cX3_exchange 29 = .ok (.getfield 43, 3) := by decide +kernel
theorem dX3_exchange_32 : decode cX3_exchange 32 = .ok (.iload_n 2, 1) := by decide +kernel
theorem dX3_exchange_33 : decode cX3_exchange 33 = .ok (.iaload, 1) := by decide +kernel
theorem dX3_exchange_34 : decode cX3_exchange 34 = .ok (.iastore, 1) := by decide +kernel
theorem dX3_exchange_35 : decode cX3_exchange 35 = .ok (.aload_n 0, 1) := by decide +kernel
theorem dX3_exchange_36 : decode cX3_exchange 36 = .ok (.getfield 43, 3) := by decide +kernel
theorem dX3_exchange_39 : decode cX3_exchange 39 = .ok (.iload_n 2, 1) := by decide +kernel
theorem dX3_exchange_40 : decode cX3_exchange 40 = .ok (.iload_n 3, 1) := by decide +kernel
theorem dX3_exchange_41 : decode cX3_exchange 41 = .ok (.iastore, 1) := by decide +kernel
theorem dX3_exchange_42 : decode cX3_exchange 42 = .ok (.return_, 1) := by decide +kernel
def fX3_exchange (g : PH) (a0 : Nat) (a1 : Int32) (a2 : Int32) : Option (Unit × PH) :=
  okb (isO g a0 3) ((fX3_hasCell g a0 a1).bind fun q1 =>
  (if q1.1 = 0 then (some ((), q1.2)) else
  ((fX3_hasCell q1.2 a0 a2).bind fun q4 =>
  (if q4.1 = 0 then (some ((), q4.2)) else
  ((getR q4.2 a0 3 10).bind fun p7 =>
  ((ldI q4.2 p7 0 a1).bind fun x9 =>
  ((getR q4.2 a0 3 10).bind fun p11 =>
  ((getR q4.2 a0 3 10).bind fun p13 =>
  ((ldI q4.2 p13 0 a2).bind fun x15 =>
  ((stI q4.2 p11 0 a1 x15).bind fun g17 =>
  ((getR g17 a0 3 10).bind fun p19 =>
  ((stI g17 p19 0 a2 x9).bind fun g21 =>
  (some ((), g21))))))))))))))
theorem oX3_exchange {g : PH} {a0 : Nat} {a1 : Int32} {a2 : Int32} {q : (Unit × PH)} (h : fX3_exchange g a0 a1 a2 = some q) : isO g a0 3 = true := by unfold fX3_exchange at h; exact (okb_some h).1
theorem hyX3_exchange : hMet yX3_exchange RX3 cX3_exchange 4 none 2 := ⟨wd_902, wd_900, wd_901, wd_3, rfl, by decide +kernel, by decide +kernel, by decide +kernel⟩
set_option maxHeartbeats 4000000 in
set_option maxRecDepth 100000 in
theorem mX3_exchange (l : Launch) (E : HE) (sz : Nat) {g g' : PH} {a0 : Nat} {a1 : Int32} {a2 : Int32} {r : Unit} (hf : fX3_exchange g a0 a1 a2 = some (r, g')) : hM l E yX3_exchange cX3_exchange 4 none 1 21 0 0 sz g [.ref a0, .int a1, .int a2] none g' := by
  refine hM.of (by decide) (Nat.le_of_ble_eq_true rfl) (fun K hl C hin hsz => ?_)
  subst hl
  subst hsz
  have C : VC K E 4 cX3_exchange RX3 none := C
  unfold fX3_exchange at hf
  replace hf := okb_some hf
  obtain ⟨ho, hf⟩ := hf
  refine V.start (L' := [(0, .ref a0), (1, .int a1), (2, .int a2)]) rfl ?_
  refine V.aload_n (pc := 0) C dX3_exchange_0 0 rfl ?_
  refine V.iload_n (pc := 1) C dX3_exchange_1 1 rfl ?_
  replace hf := ob_some hf
  obtain ⟨q1, h2, hf⟩ := hf
  refine V.callV0i (pc := 2) C hyX3_hasCell wd_903 (mX3_hasCell (r := q1.1) (g' := q1.2) K.2.1 E (kS K) h2) rfl rfl rfl (oX3_hasCell h2) ⟨Nat.le_of_ble_eq_true rfl, Nat.le_of_ble_eq_true rfl⟩ (Nat.le_of_ble_eq_true rfl) dX3_exchange_2 ⟨Nat.zero_le _, Nat.zero_le _⟩ rfl ?_
  refine V.if_eq (pc := 5) (t := 42) C dX3_exchange_5 (by decide) (fun c3 => ?_) (fun c3 => ?_)
  · replace hf := ite_t c3 hf
    obtain ⟨f1, f2⟩ := fin2 hf
    clear hf
    subst f1
    subst f2
    exact V.vret (pc := 42) C rfl dX3_exchange_42
  replace hf := ite_f c3 hf
  refine V.aload_n (pc := 8) C dX3_exchange_8 0 rfl ?_
  refine V.iload_n (pc := 9) C dX3_exchange_9 2 rfl ?_
  replace hf := ob_some hf
  obtain ⟨q4, h5, hf⟩ := hf
  refine V.callV0i (pc := 10) C hyX3_hasCell wd_903 (mX3_hasCell (r := q4.1) (g' := q4.2) K.2.1 E (kS K) h5) rfl rfl rfl (oX3_hasCell h5) ⟨Nat.le_of_ble_eq_true rfl, Nat.le_of_ble_eq_true rfl⟩ (Nat.le_of_ble_eq_true rfl) dX3_exchange_10 ⟨Nat.zero_le _, Nat.zero_le _⟩ rfl ?_
  refine V.if_eq (pc := 13) (t := 42) C dX3_exchange_13 (by decide) (fun c6 => ?_) (fun c6 => ?_)
  · replace hf := ite_t c6 hf
    obtain ⟨f1, f2⟩ := fin2 hf
    clear hf
    subst f1
    subst f2
    exact V.vret (pc := 42) C rfl dX3_exchange_42
  replace hf := ite_f c6 hf
  refine V.aload_n (pc := 16) C dX3_exchange_16 0 rfl ?_
  replace hf := ob_some hf
  obtain ⟨p7, h8, hf⟩ := hf
  refine V.getR (pc := 17) C kX3 (k := 10) (by decide) wd_79 h8 dX3_exchange_17 ?_
  refine V.iload_n (pc := 20) C dX3_exchange_20 1 rfl ?_
  replace hf := ob_some hf
  obtain ⟨x9, h10, hf⟩ := hf
  refine V.iald (pc := 21) C h10 dX3_exchange_21 ?_
  refine V.istore_n (pc := 22) (L' := [(3, .int x9), (0, .ref a0), (1, .int a1), (2, .int a2)]) C dX3_exchange_22 (by decide) rfl ?_
  refine V.aload_n (pc := 23) C dX3_exchange_23 1 rfl ?_
  replace hf := ob_some hf
  obtain ⟨p11, h12, hf⟩ := hf
  refine V.getR (pc := 24) C kX3 (k := 10) (by decide) wd_79 h12 dX3_exchange_24 ?_
  refine V.iload_n (pc := 27) C dX3_exchange_27 2 rfl ?_
  refine V.aload_n (pc := 28) C dX3_exchange_28 1 rfl ?_
  replace hf := ob_some hf
  obtain ⟨p13, h14, hf⟩ := hf
  refine V.getR (pc := 29) C kX3 (k := 10) (by decide) wd_79 h14 dX3_exchange_29 ?_
  refine V.iload_n (pc := 32) C dX3_exchange_32 3 rfl ?_
  replace hf := ob_some hf
  obtain ⟨x15, h16, hf⟩ := hf
  refine V.iald (pc := 33) C h16 dX3_exchange_33 ?_
  replace hf := ob_some hf
  obtain ⟨g17, h18, hf⟩ := hf
  refine V.iast (pc := 34) C h18 dX3_exchange_34 ?_
  refine V.aload_n (pc := 35) C dX3_exchange_35 1 rfl ?_
  replace hf := ob_some hf
  obtain ⟨p19, h20, hf⟩ := hf
  refine V.getR (pc := 36) C kX3 (k := 10) (by decide) wd_79 h20 dX3_exchange_36 ?_
  refine V.iload_n (pc := 39) C dX3_exchange_39 3 rfl ?_
  refine V.iload_n (pc := 40) C dX3_exchange_40 0 rfl ?_
  replace hf := ob_some hf
  obtain ⟨g21, h22, hf⟩ := hf
  refine V.iast (pc := 41) C h22 dX3_exchange_41 ?_
  obtain ⟨f1, f2⟩ := fin2 hf
  clear hf
  subst f1
  subst f2
  exact V.vret (pc := 42) C rfl dX3_exchange_42
theorem dX3_operate_0 : decode cX3_operate 0 = .ok (.aload_n 0, 1) := by decide +kernel
theorem dX3_operate_1 : decode cX3_operate 1 = .ok (.iload_n 1, 1) := by decide +kernel
theorem dX3_operate_2 : decode cX3_operate 2 = .ok (.invokevirtual 90, 3) := by decide +kernel
theorem dX3_operate_5 : decode cX3_operate 5 = .ok (.istore_n 3, 1) := by decide +kernel
theorem dX3_operate_6 : decode cX3_operate 6 = .ok (.iload_n 3, 1) := by decide +kernel
theorem dX3_operate_7 : decode cX3_operate 7 = .ok (.iconst (-1), 1) := by decide +kernel
theorem dX3_operate_8 : decode cX3_operate 8 = .ok (.if_icmp .ne 5, 3) := by decide +kernel
theorem dX3_operate_11 : decode cX3_operate 11 = .ok (.iconst 0, 1) := by decide +kernel
theorem dX3_operate_12 : decode cX3_operate 12 = .ok (.ireturn, 1) := by decide +kernel
theorem dX3_operate_13 : decode cX3_operate 13 = .ok (.aload_n 0, 1) := by decide +kernel
theorem dX3_operate_14 : decode cX3_operate 14 = .ok (.getfield 18, 3) := by decide +kernel
theorem dX3_operate_17 : decode cX3_operate 17 = .ok (.ifnull 59, 3) := by decide +kernel
theorem dX3_operate_20 : decode cX3_operate 20 = .ok (.iload_n 3, 1) := by decide +kernel
theorem dX3_operate_21 : decode cX3_operate 21 = .ok (.aload_n 0, 1) := by decide +kernel
theorem dX3_operate_22 : decode cX3_operate 22 = .ok (.getfield 28, 3) := by decide +kernel
theorem dX3_operate_25 : decode cX3_operate 25 = .ok (.if_icmp .eq 11, 3) := by decide +kernel
theorem dX3_operate_28 : decode cX3_operate 28 = .ok (.iload_n 3, 1) := by decide +kernel
theorem dX3_operate_29 : decode cX3_operate 29 = .ok (.aload_n 0, 1) := by decide +kernel
theorem dX3_operate_30 : decode cX3_operate 30 = .ok (.getfield 25, 3) := by decide +kernel
theorem dX3_operate_33 : decode cX3_operate 33 = .ok (.if_icmp .ne 43, 3) := by decide +kernel
theorem dX3_operate_36 : decode cX3_operate 36 = .ok (.aload_n 0, 1) := by decide +kernel
theorem dX3_operate_37 : decode cX3_operate 37 = .ok (.getfield 18, 3) := by decide +kernel
theorem dX3_operate_40 : decode cX3_operate 40 = .ok (.iload_n 3, 1) := by decide +kernel
theorem dX3_operate_41 : decode cX3_operate 41 = .ok (.aload_n 0, 1) := by decide +kernel
theorem dX3_operate_42 : decode cX3_operate 42 = .ok (.getfield 28, 3) := by decide +kernel
theorem dX3_operate_45 : decode cX3_operate 45 = .ok (.if_icmp .ne 7, 3) := by decide +kernel
theorem dX3_operate_48 : decode cX3_operate 48 = .ok (.iconst 0, 1) := by decide +kernel
theorem dX3_operate_49 : decode cX3_operate 49 = .ok (.goto 4, 3) := by decide +kernel
theorem dX3_operate_52 : decode cX3_operate 52 = .ok (.iconst 1, 1) := by decide +kernel
theorem dX3_operate_53 : decode cX3_operate 53 = .ok (.iload_n 2, 1) := by decide +kernel
theorem dX3_operate_54 : decode cX3_operate 54 = .ok (.aload_n 0, 1) := by decide +kernel
theorem dX3_operate_55 : decode cX3_operate 55 = .ok (.invokevirtual 77, 3) := by decide +kernel
theorem dX3_operate_58 : decode cX3_operate 58 = .ok (.invokevirtual 93, 3) := by decide +kernel
theorem dX3_operate_61 : decode cX3_operate 61 = .ok (.istore 4, 2) := by decide +kernel
theorem dX3_operate_63 : decode cX3_operate 63 = .ok (.aload_n 0, 1) := by decide +kernel
theorem dX3_operate_64 : decode cX3_operate 64 = .ok (.iload 4, 2) := by decide +kernel
theorem dX3_operate_66 : decode cX3_operate 66 = .ok (.iconst 3, 1) := by decide +kernel
theorem dX3_operate_67 : decode cX3_operate 67 = .ok (.iand, 1) := by decide +kernel
theorem dX3_operate_68 : decode cX3_operate 68 = .ok (.invokevirtual 87, 3) := by decide +kernel
theorem dX3_operate_71 : decode cX3_operate 71 = .ok (.iload 4, 2) := by decide +kernel
theorem dX3_operate_73 : decode cX3_operate 73 = .ok (.iconst 2, 1) := by decide +kernel
theorem dX3_operate_74 : decode cX3_operate 74 = .ok (.ishr, 1) := by decide +kernel
theorem dX3_operate_75 : decode cX3_operate 75 = .ok (.ireturn, 1) := by decide +kernel
theorem dX3_operate_76 : decode cX3_operate 76 = .ok (.iload_n 2, 1) := by decide +kernel
theorem dX3_operate_77 : decode cX3_operate 77 = .ok (.ifCond .ne 12, 3) := by decide +kernel
theorem dX3_operate_80 : decode cX3_operate 80 = .ok (.aload_n 0, 1) := by decide +kernel
theorem dX3_operate_81 : decode cX3_operate 81 = .ok (.getfield 15, 3) := by decide +kernel
theorem dX3_operate_84 : decode cX3_operate 84 = .ok (.iload_n 3, 1) := by decide +kernel
theorem dX3_operate_85 : decode cX3_operate 85 = .ok (.ishr, 1) := by decide +kernel
theorem dX3_operate_86 : decode cX3_operate 86 = .ok (.iconst 1, 1) := by decide +kernel
theorem dX3_operate_87 : decode cX3_operate 87 = .ok (.iand, 1) := by decide +kernel
theorem dX3_operate_88 : decode cX3_operate 88 = .ok (.ireturn, 1) := by decide +kernel
theorem dX3_operate_89 : decode cX3_operate 89 = .ok (.aload_n 0, 1) := by decide +kernel
theorem dX3_operate_90 : decode cX3_operate 90 = .ok (.aload_n 0, 1) := by decide +kernel
theorem dX3_operate_91 : decode cX3_operate 91 = .ok (.getfield 15, 3) := by decide +kernel
theorem dX3_operate_94 : decode cX3_operate 94 = .ok (.iload_n 3, 1) := by decide +kernel
theorem dX3_operate_95 : decode cX3_operate 95 = .ok (.iload_n 2, 1) := by decide +kernel
theorem dX3_operate_96 : decode cX3_operate 96 = .ok (.iconst 1, 1) := by decide +kernel
theorem dX3_operate_97 : decode cX3_operate 97 = .ok (.isub, 1) := by decide +kernel
theorem dX3_operate_98 : decode cX3_operate 98 = .ok (.invokestatic 97, 3) := by decide +kernel
theorem dX3_operate_101 : decode cX3_operate 101 = .ok (.putfield 15, 3) := by decide +kernel
theorem dX3_operate_104 : decode cX3_operate 104 = .ok (.iconst 0, 1) := by decide +kernel
theorem dX3_operate_105 : decode cX3_operate 105 = .ok (.ireturn, 1) := by decide +kernel
def fX3_operate_53  (g : PH) (v0 : Nat) (v2 : Int32) (s0 : Int32) (s1 : Option Nat) : Option (Int32 × PH) :=
  (fX3_state g v0).bind fun q1 =>
  (s1.bind fun p3 =>
  ((fX1_outcomeOf q1.2 p3 s0 v2 q1.1).bind fun q5 =>
  ((fX3_setState q5.2 v0 (q5.1 &&& (3 : Int32))).bind fun q7 =>
  (some ((q5.1 >>> ((2 : Int32) &&& 31)), q7.2)))))
set_option maxHeartbeats 4000000 in
set_option maxRecDepth 100000 in
theorem bX3_operate_53 {K : HK} {E : HE} {r : Int32} {g' : PH}  (C : VC K E 5 cX3_operate RX3 (some .int))  {g : PH} {v0 : Nat} {v2 : Int32} {s0 : Int32} {s1 : Option Nat} (hf : fX3_operate_53  g v0 v2 s0 s1 = some (r, g')) : V K E (hRm 2 43 0 0) 5 (hZ K E (some (.int r)) g' 0 0) 0 0 (kS K) g 53 [(0, .ref v0), (2, .int v2)] [.int s0, va_rf s1] := by
  unfold fX3_operate_53 at hf
  refine V.iload_n (pc := 53) C dX3_operate_53 1 rfl ?_
  refine V.aload_n (pc := 54) C dX3_operate_54 0 rfl ?_
  replace hf := ob_some hf
  obtain ⟨q1, h2, hf⟩ := hf
  refine V.callV0i (pc := 55) C hyX3_state wd_173 (mX3_state (r := q1.1) (g' := q1.2) K.2.1 E (kS K) h2) rfl rfl rfl (oX3_state h2) ⟨Nat.le_of_ble_eq_true rfl, Nat.le_of_ble_eq_true rfl⟩ (by cases s1 <;> exact Nat.le_of_ble_eq_true rfl) dX3_operate_55 ⟨Nat.zero_le _, Nat.zero_le _⟩ rfl ?_
  replace hf := ob_some hf
  obtain ⟨p3, h4, hf⟩ := hf
  subst h4
  replace hf := ob_some hf
  obtain ⟨q5, h6, hf⟩ := hf
  refine V.callV0i (pc := 58) C hyX1_outcomeOf wd_869 (mX1_outcomeOf (r := q5.1) (g' := q5.2) K.2.1 E (kS K) h6) rfl rfl rfl (oX1_outcomeOf h6) ⟨Nat.le_of_ble_eq_true rfl, Nat.le_of_ble_eq_true rfl⟩ (Nat.le_of_ble_eq_true rfl) dX3_operate_58 ⟨Nat.zero_le _, Nat.zero_le _⟩ rfl ?_
  refine V.istore (pc := 61) (L' := [(4, .int q5.1), (0, .ref v0), (2, .int v2)]) C dX3_operate_61 (by decide) rfl ?_
  refine V.aload_n (pc := 63) C dX3_operate_63 1 rfl ?_
  refine V.iload (pc := 64) C dX3_operate_64 0 rfl ?_
  refine V.iconst (pc := 66) C dX3_operate_66 (v := (3 : Int32)) (by decide) ?_
  refine V.iand (pc := 67) C dX3_operate_67 ?_
  replace hf := ob_some hf
  obtain ⟨q7, h8, hf⟩ := hf
  refine V.callV0v (pc := 68) C hyX3_setState wd_181 (mX3_setState (r := q7.1) (g' := q7.2) K.2.1 E (kS K) h8) rfl rfl rfl (oX3_setState h8) ⟨Nat.le_of_ble_eq_true rfl, Nat.le_of_ble_eq_true rfl⟩ (Nat.le_of_ble_eq_true rfl) dX3_operate_68 ⟨Nat.zero_le _, Nat.zero_le _⟩ rfl ?_
  refine V.iload (pc := 71) C dX3_operate_71 0 rfl ?_
  refine V.iconst (pc := 73) C dX3_operate_73 (v := (2 : Int32)) (by decide) ?_
  refine V.ishr (pc := 74) C dX3_operate_74 ?_
  obtain ⟨f1, f2⟩ := fin2 hf
  clear hf
  subst f1
  subst f2
  exact V.iret (pc := 75) C rfl dX3_operate_75
def fX3_operate_36  (g : PH) (v0 : Nat) (v2 : Int32) (v3 : Int32) : Option (Int32 × PH) :=
  (getQ g v0 3 2).bind fun q1 =>
  ((getI g v0 3 5).bind fun x3 =>
  (if v3 = x3 then (fX3_operate_53 g v0 v2 (0 : Int32) q1) else
  (fX3_operate_53 g v0 v2 (1 : Int32) q1)))
set_option maxHeartbeats 4000000 in
set_option maxRecDepth 100000 in
theorem bX3_operate_36 {K : HK} {E : HE} {r : Int32} {g' : PH}  (C : VC K E 5 cX3_operate RX3 (some .int))  {g : PH} {v0 : Nat} {v2 : Int32} {v3 : Int32} (hf : fX3_operate_36  g v0 v2 v3 = some (r, g')) : V K E (hRm 2 43 0 0) 5 (hZ K E (some (.int r)) g' 0 0) 0 0 (kS K) g 36 [(0, .ref v0), (2, .int v2), (3, .int v3)] [] := by
  unfold fX3_operate_36 at hf
  refine V.aload_n (pc := 36) C dX3_operate_36 0 rfl ?_
  replace hf := ob_some hf
  obtain ⟨q1, h2, hf⟩ := hf
  refine V.getQ (pc := 37) C kX3 (k := 2) (by decide) wd_63 h2 dX3_operate_37 ?_
  refine V.iload_n (pc := 40) C dX3_operate_40 2 rfl ?_
  refine V.aload_n (pc := 41) C dX3_operate_41 0 rfl ?_
  replace hf := ob_some hf
  obtain ⟨x3, h4, hf⟩ := hf
  refine V.getI (pc := 42) C kX3 (k := 5) (by decide) wd_69 h4 dX3_operate_42 ?_
  refine V.icmp_ne (pc := 45) (t := 52) C dX3_operate_45 (by decide) (fun c5 => ?_) (fun c5 => ?_)
  · replace hf := ite_f c5 hf
    refine V.iconst (pc := 52) C dX3_operate_52 (v := (1 : Int32)) (by decide) ?_
    refine V.sub (L' := [(0, .ref v0), (2, .int v2)]) [0, 1] rfl ?_
    exact bX3_operate_53 C  hf
  replace hf := ite_t c5 hf
  refine V.iconst (pc := 48) C dX3_operate_48 (v := (0 : Int32)) (by decide) ?_
  refine V.goto (pc := 49) (t := 53) C dX3_operate_49 (by decide) ?_
  refine V.sub (L' := [(0, .ref v0), (2, .int v2)]) [0, 1] rfl ?_
  exact bX3_operate_53 C  hf
def fX3_operate_76  (g : PH) (v0 : Nat) (v2 : Int32) (v3 : Int32) : Option (Int32 × PH) :=
  if v2 = 0 then ((getI g v0 3 1).bind fun x8 =>
  (some (((x8 >>> (v3 &&& 31)) &&& (1 : Int32)), g))) else
  ((getI g v0 3 1).bind fun x2 =>
  ((fX3_withBit g x2 v3 (v2 - (1 : Int32))).bind fun q4 =>
  ((putV q4.2 v0 3 1 (.int q4.1)).bind fun g6 =>
  (some ((0 : Int32), g6)))))
set_option maxHeartbeats 4000000 in
set_option maxRecDepth 100000 in
theorem bX3_operate_76 {K : HK} {E : HE} {r : Int32} {g' : PH}  (C : VC K E 5 cX3_operate RX3 (some .int))  {g : PH} {v0 : Nat} {v2 : Int32} {v3 : Int32} (hf : fX3_operate_76  g v0 v2 v3 = some (r, g')) : V K E (hRm 2 43 0 0) 5 (hZ K E (some (.int r)) g' 0 0) 0 0 (kS K) g 76 [(0, .ref v0), (2, .int v2), (3, .int v3)] [] := by
  unfold fX3_operate_76 at hf
  refine V.iload_n (pc := 76) C dX3_operate_76 1 rfl ?_
  refine V.if_ne (pc := 77) (t := 89) C dX3_operate_77 (by decide) (fun c1 => ?_) (fun c1 => ?_)
  · replace hf := ite_f c1 hf
    refine V.aload_n (pc := 89) C dX3_operate_89 0 rfl ?_
    refine V.aload_n (pc := 90) C dX3_operate_90 0 rfl ?_
    replace hf := ob_some hf
    obtain ⟨x2, h3, hf⟩ := hf
    refine V.getI (pc := 91) C kX3 (k := 1) (by decide) wd_61 h3 dX3_operate_91 ?_
    refine V.iload_n (pc := 94) C dX3_operate_94 2 rfl ?_
    refine V.iload_n (pc := 95) C dX3_operate_95 1 rfl ?_
    refine V.iconst (pc := 96) C dX3_operate_96 (v := (1 : Int32)) (by decide) ?_
    refine V.isub (pc := 97) C dX3_operate_97 ?_
    replace hf := ob_some hf
    obtain ⟨q4, h5, hf⟩ := hf
    refine V.callS0i (pc := 98) C hyX3_withBit wd_185 (mX3_withBit (r := q4.1) (g' := q4.2) K.2.1 E (kS K) h5) rfl ⟨Nat.le_of_ble_eq_true rfl, Nat.le_of_ble_eq_true rfl⟩ (Nat.le_of_ble_eq_true rfl) dX3_operate_98 ⟨Nat.zero_le _, Nat.zero_le _⟩ rfl ?_
    replace hf := ob_some hf
    obtain ⟨g6, h7, hf⟩ := hf
    refine V.putX (pc := 101) C kX3 (k := 1) (by decide) wd_61 rfl rfl rfl h7 dX3_operate_101 ?_
    refine V.iconst (pc := 104) C dX3_operate_104 (v := (0 : Int32)) (by decide) ?_
    obtain ⟨f1, f2⟩ := fin2 hf
    clear hf
    subst f1
    subst f2
    exact V.iret (pc := 105) C rfl dX3_operate_105
  replace hf := ite_t c1 hf
  refine V.aload_n (pc := 80) C dX3_operate_80 0 rfl ?_
  replace hf := ob_some hf
  obtain ⟨x8, h9, hf⟩ := hf
  refine V.getI (pc := 81) C kX3 (k := 1) (by decide) wd_61 h9 dX3_operate_81 ?_
  refine V.iload_n (pc := 84) C dX3_operate_84 2 rfl ?_
  refine V.ishr (pc := 85) C dX3_operate_85 ?_
  refine V.iconst (pc := 86) C dX3_operate_86 (v := (1 : Int32)) (by decide) ?_
  refine V.iand (pc := 87) C dX3_operate_87 ?_
  obtain ⟨f1, f2⟩ := fin2 hf
  clear hf
  subst f1
  subst f2
  exact V.iret (pc := 88) C rfl dX3_operate_88
def fX3_operate (g : PH) (a0 : Nat) (a1 : Int32) (a2 : Int32) : Option (Int32 × PH) :=
  okb (isO g a0 3) ((fX3_cellOf g a0 a1).bind fun q1 =>
  (if q1.1 = (-1 : Int32) then (some ((0 : Int32), q1.2)) else
  ((getQ q1.2 a0 3 2).bind fun q4 =>
  (q4.elim (fX3_operate_76 q1.2 a0 a2 q1.1) (fun p6 =>
  (getI q1.2 a0 3 5).bind fun x7 =>
  (if q1.1 = x7 then (fX3_operate_36 q1.2 a0 a2 q1.1) else
  ((getI q1.2 a0 3 4).bind fun x10 =>
  (if q1.1 = x10 then (fX3_operate_36 q1.2 a0 a2 q1.1) else
  (fX3_operate_76 q1.2 a0 a2 q1.1)))))))))
theorem oX3_operate {g : PH} {a0 : Nat} {a1 : Int32} {a2 : Int32} {q : (Int32 × PH)} (h : fX3_operate g a0 a1 a2 = some q) : isO g a0 3 = true := by unfold fX3_operate at h; exact (okb_some h).1
theorem hyX3_operate : hMet yX3_operate RX3 cX3_operate 5 (some .int) 2 := ⟨wd_864, wd_862, wd_863, wd_3, rfl, by decide +kernel, by decide +kernel, by decide +kernel⟩
set_option maxHeartbeats 4000000 in
set_option maxRecDepth 100000 in
theorem mX3_operate (l : Launch) (E : HE) (sz : Nat) {g g' : PH} {a0 : Nat} {a1 : Int32} {a2 : Int32} {r : Int32} (hf : fX3_operate g a0 a1 a2 = some (r, g')) : hM l E yX3_operate cX3_operate 5 (some .int) 2 43 0 0 sz g [.ref a0, .int a1, .int a2] (some (.int r)) g' := by
  refine hM.of (by decide) (Nat.le_of_ble_eq_true rfl) (fun K hl C hin hsz => ?_)
  subst hl
  subst hsz
  have C : VC K E 5 cX3_operate RX3 (some .int) := C
  unfold fX3_operate at hf
  replace hf := okb_some hf
  obtain ⟨ho, hf⟩ := hf
  refine V.start (L' := [(0, .ref a0), (1, .int a1), (2, .int a2)]) rfl ?_
  refine V.aload_n (pc := 0) C dX3_operate_0 0 rfl ?_
  refine V.iload_n (pc := 1) C dX3_operate_1 1 rfl ?_
  replace hf := ob_some hf
  obtain ⟨q1, h2, hf⟩ := hf
  refine V.callV0i (pc := 2) C hyX3_cellOf wd_865 (mX3_cellOf (r := q1.1) (g' := q1.2) K.2.1 E (kS K) h2) rfl rfl rfl (oX3_cellOf h2) ⟨Nat.le_of_ble_eq_true rfl, Nat.le_of_ble_eq_true rfl⟩ (Nat.le_of_ble_eq_true rfl) dX3_operate_2 ⟨Nat.zero_le _, Nat.zero_le _⟩ rfl ?_
  refine V.istore_n (pc := 5) (L' := [(3, .int q1.1), (0, .ref a0), (1, .int a1), (2, .int a2)]) C dX3_operate_5 (by decide) rfl ?_
  refine V.iload_n (pc := 6) C dX3_operate_6 0 rfl ?_
  refine V.iconst (pc := 7) C dX3_operate_7 (v := (-1 : Int32)) (by decide) ?_
  refine V.icmp_ne (pc := 8) (t := 13) C dX3_operate_8 (by decide) (fun c3 => ?_) (fun c3 => ?_)
  · replace hf := ite_f c3 hf
    refine V.aload_n (pc := 13) C dX3_operate_13 1 rfl ?_
    replace hf := ob_some hf
    obtain ⟨q4, h5, hf⟩ := hf
    refine V.getQ (pc := 14) C kX3 (k := 2) (by decide) wd_63 h5 dX3_operate_14 ?_
    rcases q4 with _ | p6
    · refine V.ifnullN (pc := 17) (t := 76) C dX3_operate_17 (by decide) ?_
      refine V.sub (L' := [(0, .ref a0), (2, .int a2), (3, .int q1.1)]) [1, 3, 0] rfl ?_
      exact bX3_operate_76 C  hf
    refine V.ifnull (pc := 17) C dX3_operate_17 ?_
    refine V.iload_n (pc := 20) C dX3_operate_20 0 rfl ?_
    refine V.aload_n (pc := 21) C dX3_operate_21 1 rfl ?_
    replace hf := ob_some hf
    obtain ⟨x7, h8, hf⟩ := hf
    refine V.getI (pc := 22) C kX3 (k := 5) (by decide) wd_69 h8 dX3_operate_22 ?_
    refine V.icmp_eq (pc := 25) (t := 36) C dX3_operate_25 (by decide) (fun c9 => ?_) (fun c9 => ?_)
    · replace hf := ite_t c9 hf
      refine V.sub (L' := [(0, .ref a0), (2, .int a2), (3, .int q1.1)]) [1, 3, 0] rfl ?_
      exact bX3_operate_36 C  hf
    replace hf := ite_f c9 hf
    refine V.iload_n (pc := 28) C dX3_operate_28 0 rfl ?_
    refine V.aload_n (pc := 29) C dX3_operate_29 1 rfl ?_
    replace hf := ob_some hf
    obtain ⟨x10, h11, hf⟩ := hf
    refine V.getI (pc := 30) C kX3 (k := 4) (by decide) wd_67 h11 dX3_operate_30 ?_
    refine V.icmp_ne (pc := 33) (t := 76) C dX3_operate_33 (by decide) (fun c12 => ?_) (fun c12 => ?_)
    · replace hf := ite_f c12 hf
      refine V.sub (L' := [(0, .ref a0), (2, .int a2), (3, .int q1.1)]) [1, 3, 0] rfl ?_
      exact bX3_operate_76 C  hf
    replace hf := ite_t c12 hf
    refine V.sub (L' := [(0, .ref a0), (2, .int a2), (3, .int q1.1)]) [1, 3, 0] rfl ?_
    exact bX3_operate_36 C  hf
  replace hf := ite_t c3 hf
  refine V.iconst (pc := 11) C dX3_operate_11 (v := (0 : Int32)) (by decide) ?_
  obtain ⟨f1, f2⟩ := fin2 hf
  clear hf
  subst f1
  subst f2
  exact V.iret (pc := 12) C rfl dX3_operate_12
theorem dX3_note_0 : decode cX3_note 0 = .ok (.aload_n 0, 1) := by decide +kernel
theorem dX3_note_1 : decode cX3_note 1 = .ok (.getfield 40, 3) := by decide +kernel
theorem dX3_note_4 : decode cX3_note 4 = .ok (.bipush 60, 2) := by decide +kernel
theorem dX3_note_6 : decode cX3_note 6 = .ok (.if_icmp .ge 28, 3) := by decide +kernel
theorem dX3_note_9 : decode cX3_note 9 = .ok (.aload_n 0, 1) := by decide +kernel
theorem dX3_note_10 : decode cX3_note 10 = .ok (.getfield 47, 3) := by decide +kernel
theorem dX3_note_13 : decode cX3_note 13 = .ok (.aload_n 0, 1) := by decide +kernel
theorem dX3_note_14 : decode cX3_note 14 = .ok (.getfield 40, 3) := by decide +kernel
theorem dX3_note_17 : decode cX3_note 17 = .ok (.bipush 8, 2) := by decide +kernel
theorem dX3_note_19 : decode cX3_note 19 = .ok (.iload_n 1, 1) := by decide +kernel
theorem dX3_note_20 : decode cX3_note 20 = .ok (.imul, 1) := by decide +kernel
theorem dX3_note_21 : decode cX3_note 21 = .ok (.iload_n 2, 1) := by decide +kernel
theorem dX3_note_22 : decode cX3_note 22 = .ok (.iadd, 1) := by decide +kernel
theorem dX3_note_23 : decode cX3_note 23 = .ok (.iastore, 1) := by decide +kernel
theorem dX3_note_24 : decode cX3_note 24 = .ok (.aload_n 0, 1) := by decide +kernel
theorem dX3_note_25 : decode cX3_note 25 = .ok (.dup, 1) := by decide +kernel
theorem dX3_note_26 : decode cX3_note 26 = .ok (.getfield 40, 3) := by decide +kernel
theorem dX3_note_29 : decode cX3_note 29 = .ok (.iconst 1, 1) := by decide +kernel
theorem dX3_note_30 : decode cX3_note 30 = .ok (.iadd, 1) := by decide +kernel
theorem dX3_note_31 : decode cX3_note 31 = .ok (.putfield 40, 3) := by decide +kernel
theorem dX3_note_34 : decode cX3_note 34 = .ok (.aload_n 0, 1) := by decide +kernel
theorem dX3_note_35 : decode cX3_note 35 = .ok (.dup, 1) := by decide +kernel
theorem dX3_note_36 : decode cX3_note 36 = .ok (.getfield 37, 3) := by decide +kernel
theorem dX3_note_39 : decode cX3_note 39 = .ok (.iconst 1, 1) := by decide +kernel
theorem dX3_note_40 : decode cX3_note 40 = .ok (.iadd, 1) := by decide +kernel
theorem dX3_note_41 : decode cX3_note 41 = .ok (.putfield 37, 3) := by decide +kernel
theorem dX3_note_44 : decode cX3_note 44 = .ok (.return_, 1) := by decide +kernel
def fX3_note (g : PH) (a0 : Nat) (a1 : Int32) (a2 : Int32) : Option (Unit × PH) :=
  okb (isO g a0 3) ((getI g a0 3 9).bind fun x1 =>
  (if (60 : Int32) ≤ x1 then ((getI g a0 3 8).bind fun x4 =>
  ((putV g a0 3 8 (.int (x4 + (1 : Int32)))).bind fun g6 =>
  (some ((), g6)))) else
  ((getR g a0 3 11).bind fun p8 =>
  ((getI g a0 3 9).bind fun x10 =>
  ((stI g p8 0 x10 (((8 : Int32) * a1) + a2)).bind fun g12 =>
  ((getI g12 a0 3 9).bind fun x14 =>
  ((putV g12 a0 3 9 (.int (x14 + (1 : Int32)))).bind fun g16 =>
  ((getI g16 a0 3 8).bind fun x18 =>
  ((putV g16 a0 3 8 (.int (x18 + (1 : Int32)))).bind fun g20 =>
  (some ((), g20)))))))))))
theorem oX3_note {g : PH} {a0 : Nat} {a1 : Int32} {a2 : Int32} {q : (Unit × PH)} (h : fX3_note g a0 a1 a2 = some q) : isO g a0 3 = true := by unfold fX3_note at h; exact (okb_some h).1
theorem hyX3_note : hMet yX3_note RX3 cX3_note 3 none 2 := ⟨wd_893, wd_892, ws_41, wd_3, rfl, by decide +kernel, by decide +kernel, by decide +kernel⟩
set_option maxHeartbeats 4000000 in
set_option maxRecDepth 100000 in
theorem mX3_note (l : Launch) (E : HE) (sz : Nat) {g g' : PH} {a0 : Nat} {a1 : Int32} {a2 : Int32} {r : Unit} (hf : fX3_note g a0 a1 a2 = some (r, g')) : hM l E yX3_note cX3_note 3 none 0 0 0 0 sz g [.ref a0, .int a1, .int a2] none g' := by
  refine hM.of (by decide) (Nat.le_of_ble_eq_true rfl) (fun K hl C hin hsz => ?_)
  subst hl
  subst hsz
  have C : VC K E 3 cX3_note RX3 none := C
  unfold fX3_note at hf
  replace hf := okb_some hf
  obtain ⟨ho, hf⟩ := hf
  refine V.start (L' := [(0, .ref a0), (1, .int a1), (2, .int a2)]) rfl ?_
  refine V.aload_n (pc := 0) C dX3_note_0 0 rfl ?_
  replace hf := ob_some hf
  obtain ⟨x1, h2, hf⟩ := hf
  refine V.getI (pc := 1) C kX3 (k := 9) (by decide) wd_77 h2 dX3_note_1 ?_
  refine V.bipush (pc := 4) C dX3_note_4 (v := (60 : Int32)) (by decide) ?_
  refine V.icmp_ge (pc := 6) (t := 34) C dX3_note_6 (by decide) (fun c3 => ?_) (fun c3 => ?_)
  · replace hf := ite_t c3 hf
    refine V.aload_n (pc := 34) C dX3_note_34 0 rfl ?_
    refine V.dup (pc := 35) C dX3_note_35 rfl ?_
    replace hf := ob_some hf
    obtain ⟨x4, h5, hf⟩ := hf
    refine V.getI (pc := 36) C kX3 (k := 8) (by decide) wd_75 h5 dX3_note_36 ?_
    refine V.iconst (pc := 39) C dX3_note_39 (v := (1 : Int32)) (by decide) ?_
    refine V.iadd (pc := 40) C dX3_note_40 ?_
    replace hf := ob_some hf
    obtain ⟨g6, h7, hf⟩ := hf
    refine V.putX (pc := 41) C kX3 (k := 8) (by decide) wd_75 rfl rfl rfl h7 dX3_note_41 ?_
    obtain ⟨f1, f2⟩ := fin2 hf
    clear hf
    subst f1
    subst f2
    exact V.vret (pc := 44) C rfl dX3_note_44
  replace hf := ite_f c3 hf
  refine V.aload_n (pc := 9) C dX3_note_9 0 rfl ?_
  replace hf := ob_some hf
  obtain ⟨p8, h9, hf⟩ := hf
  refine V.getR (pc := 10) C kX3 (k := 11) (by decide) wd_80 h9 dX3_note_10 ?_
  refine V.aload_n (pc := 13) C dX3_note_13 0 rfl ?_
  replace hf := ob_some hf
  obtain ⟨x10, h11, hf⟩ := hf
  refine V.getI (pc := 14) C kX3 (k := 9) (by decide) wd_77 h11 dX3_note_14 ?_
  refine V.bipush (pc := 17) C dX3_note_17 (v := (8 : Int32)) (by decide) ?_
  refine V.iload_n (pc := 19) C dX3_note_19 1 rfl ?_
  refine V.imul (pc := 20) C dX3_note_20 ?_
  refine V.iload_n (pc := 21) C dX3_note_21 2 rfl ?_
  refine V.iadd (pc := 22) C dX3_note_22 ?_
  replace hf := ob_some hf
  obtain ⟨g12, h13, hf⟩ := hf
  refine V.iast (pc := 23) C h13 dX3_note_23 ?_
  refine V.aload_n (pc := 24) C dX3_note_24 0 rfl ?_
  refine V.dup (pc := 25) C dX3_note_25 rfl ?_
  replace hf := ob_some hf
  obtain ⟨x14, h15, hf⟩ := hf
  refine V.getI (pc := 26) C kX3 (k := 9) (by decide) wd_77 h15 dX3_note_26 ?_
  refine V.iconst (pc := 29) C dX3_note_29 (v := (1 : Int32)) (by decide) ?_
  refine V.iadd (pc := 30) C dX3_note_30 ?_
  replace hf := ob_some hf
  obtain ⟨g16, h17, hf⟩ := hf
  refine V.putX (pc := 31) C kX3 (k := 9) (by decide) wd_77 rfl rfl rfl h17 dX3_note_31 ?_
  refine V.aload_n (pc := 34) C dX3_note_34 0 rfl ?_
  refine V.dup (pc := 35) C dX3_note_35 rfl ?_
  replace hf := ob_some hf
  obtain ⟨x18, h19, hf⟩ := hf
  refine V.getI (pc := 36) C kX3 (k := 8) (by decide) wd_75 h19 dX3_note_36 ?_
  refine V.iconst (pc := 39) C dX3_note_39 (v := (1 : Int32)) (by decide) ?_
  refine V.iadd (pc := 40) C dX3_note_40 ?_
  replace hf := ob_some hf
  obtain ⟨g20, h21, hf⟩ := hf
  refine V.putX (pc := 41) C kX3 (k := 8) (by decide) wd_75 rfl rfl rfl h21 dX3_note_41 ?_
  obtain ⟨f1, f2⟩ := fin2 hf
  clear hf
  subst f1
  subst f2
  exact V.vret (pc := 44) C rfl dX3_note_44
