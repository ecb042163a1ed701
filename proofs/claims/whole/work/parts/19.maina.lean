theorem dX8_init_0 : decode cX8_init 0 = .ok (.aload_n 0, 1) := by decide +kernel
theorem dX8_init_1 : decode cX8_init 1 = .ok (.invokespecial 1, 3) := by decide +kernel
theorem dX8_init_4 : decode cX8_init 4 = .ok (.aload_n 0, 1) := by decide +kernel
theorem dX8_init_5 : decode cX8_init 5 = .ok (.new 7, 3) := by decide +kernel
theorem dX8_init_8 : decode cX8_init 8 = .ok (.dup, 1) := by decide +kernel
theorem dX8_init_9 : decode cX8_init 9 = .ok (.invokespecial 9, 3) := by decide +kernel
theorem dX8_init_12 : decode cX8_init 12 = .ok (.putfield 10, 3) := by decide +kernel
theorem dX8_init_15 : decode cX8_init 15 = .ok (.aload_n 0, 1) := by decide +kernel
theorem dX8_init_16 : decode cX8_init 16 = .ok (.bipush 8, 2) := by decide +kernel
theorem dX8_init_18 : decode cX8_init 18 = .ok (.anewarray 16, 3) := by decide +kernel
theorem dX8_init_21 : decode cX8_init 21 = .ok (.putfield 18, 3) := by decide +kernel
theorem dX8_init_24 : decode cX8_init 24 = .ok (.aload_n 0, 1) := by decide +kernel
theorem dX8_init_25 : decode cX8_init 25 = .ok (.iconst 0, 1) := by decide +kernel
theorem dX8_init_26 : decode cX8_init 26 = .ok (.putfield 22, 3) := by decide +kernel
theorem dX8_init_29 : decode cX8_init 29 = .ok (.aload_n 0, 1) := by decide +kernel
theorem dX8_init_30 : decode cX8_init 30 = .ok (.bipush 6, 2) := by decide +kernel
theorem dX8_init_32 : decode cX8_init 32 = .ok (.anewarray 26, 3) := by decide +kernel
theorem dX8_init_35 : decode cX8_init 35 = .ok (.putfield 28, 3) := by decide +kernel
theorem dX8_init_38 : decode cX8_init 38 = .ok (.aload_n 0, 1) := by decide +kernel
theorem dX8_init_39 : decode cX8_init 39 = .ok (.iconst 0, 1) := by decide +kernel
theorem dX8_init_40 : decode cX8_init 40 = .ok (.putfield 32, 3) := by decide +kernel
theorem dX8_init_43 : decode cX8_init 43 = .ok (.aload_n 0, 1) := by decide +kernel
theorem dX8_init_44 : decode cX8_init 44 = .ok (.new 35, 3) := by decide +kernel
theorem dX8_init_47 : decode cX8_init 47 = .ok (.dup, 1) := by decide +kernel
theorem dX8_init_48 : decode cX8_init 48 = .ok (.invokespecial 37, 3) := by decide +kernel
theorem dX8_init_51 : decode cX8_init 51 = .ok (.putfield 38, 3) := by decide +kernel
theorem dX8_init_54 : decode cX8_init 54 = .ok (.aload_n 0, 1) := by decide +kernel
theorem dX8_init_55 : decode cX8_init 55 = .ok (.new 42, 3) := by decide +kernel
theorem dX8_init_58 : decode cX8_init 58 = .ok (.dup, 1) := by decide +kernel
theorem dX8_init_59 : decode cX8_init 59 = .ok (.invokespecial 44, 3) := by decide +kernel
theorem dX8_init_62 : decode cX8_init 62 = .ok (.putfield 45, 3) := by decide +kernel
theorem dX8_init_65 : decode cX8_init 65 = .ok (.aload_n 0, 1) := by decide +kernel
theorem dX8_init_66 : decode cX8_init 66 = .ok (.new 49, 3) := by decide +kernel
theorem dX8_init_69 : decode cX8_init 69 = .ok (.dup, 1) := by decide +kernel
theorem dX8_init_70 : decode cX8_init 70 = .ok (.invokespecial 51, 3) := by decide +kernel
theorem dX8_init_73 : decode cX8_init 73 = .ok (.putfield 52, 3) := by decide +kernel
theorem dX8_init_76 : decode cX8_init 76 = .ok (.aload_n 0, 1) := by decide +kernel
theorem dX8_init_77 : decode cX8_init 77 = .ok (.bipush 48, 2) := by decide +kernel
theorem dX8_init_79 : decode cX8_init 79 = .ok (.newarray .int, 2) := by decide +kernel
theorem dX8_init_81 : decode cX8_init 81 = .ok (.putfield 56, 3) := by decide +kernel
theorem dX8_init_84 : decode cX8_init 84 = .ok (.aload_n 0, 1) := by decide +kernel
theorem dX8_init_85 : decode cX8_init 85 = .ok (.aconst_null, 1) := by decide +kernel
theorem dX8_init_86 : decode cX8_init 86 = .ok (.putfield 60, 3) := by decide +kernel
theorem dX8_init_89 : decode cX8_init 89 = .ok (.aload_n 0, 1) := by decide +kernel
theorem dX8_init_90 : decode cX8_init 90 = .ok (.aconst_null, 1) := by decide +kernel
theorem dX8_init_91 : decode cX8_init 91 = .ok (.putfield 64, 3) := by decide +kernel
theorem dX8_init_94 : decode cX8_init 94 = .ok (.aload_n 0, 1) := by decide +kernel
theorem dX8_init_95 : decode cX8_init 95 = .ok (.iconst 0, 1) := by decide +kernel
theorem dX8_init_96 : decode cX8_init 96 = .ok (.putfield 68, 3) := by decide +kernel
theorem dX8_init_99 : decode cX8_init 99 = .ok (.aload_n 0, 1) := by decide +kernel
theorem dX8_init_100 : decode cX8_init 100 = .ok (.getfield 38, 3) := by decide +kernel
theorem dX8_init_103 : decode cX8_init 103 = .ok (.iconst 4, 1) := by decide +kernel
theorem dX8_init_104 : decode cX8_init 104 = .ok (.invokevirtual 71, 3) := by decide +kernel
theorem dX8_init_107 : decode cX8_init 107 = .ok (.return_, 1) := by decide +kernel
def fX8_init (sz : Nat) (g : PH) (a0 : Nat) : Option (Unit × PH × Nat × Nat) :=
  bmp 1 4 ((fX6_init (sz + 1) (hup g sz (.inr (6, dfX6))) sz).bind fun q6 =>
  (bmp q6.2.2.1 q6.2.2.2 ((putV q6.2.1 a0 8 0 (.ref sz)).bind fun g12 =>
  (bmp 1 8 ((putV (hup g12 ((sz + 1) + q6.2.2.1) (.inl (4, 8, .inr (.inr (.inr (.inr (fun _ => none))))))) a0 8 1 (.ref ((sz + 1) + q6.2.2.1))).bind fun g19 =>
  ((putV g19 a0 8 2 (.int (0 : Int32))).bind fun g21 =>
  (bmp 1 6 ((putV (hup g21 (((sz + 1) + q6.2.2.1) + 1) (.inl (5, 6, .inr (.inr (.inr (.inr (fun _ => none))))))) a0 8 3 (.ref (((sz + 1) + q6.2.2.1) + 1))).bind fun g28 =>
  ((putV g28 a0 8 4 (.int (0 : Int32))).bind fun g30 =>
  (bmp 1 12 ((fX3_init (((((sz + 1) + q6.2.2.1) + 1) + 1) + 1) (hup g30 ((((sz + 1) + q6.2.2.1) + 1) + 1) (.inr (3, dfX3))) ((((sz + 1) + q6.2.2.1) + 1) + 1)).bind fun q37 =>
  (bmp q37.2.2.1 q37.2.2.2 ((putV q37.2.1 a0 8 5 (.ref ((((sz + 1) + q6.2.2.1) + 1) + 1))).bind fun g43 =>
  (bmp 1 3 ((fX0_init (((((((sz + 1) + q6.2.2.1) + 1) + 1) + 1) + q37.2.2.1) + 1) (hup g43 ((((((sz + 1) + q6.2.2.1) + 1) + 1) + 1) + q37.2.2.1) (.inr (0, dfX0))) ((((((sz + 1) + q6.2.2.1) + 1) + 1) + 1) + q37.2.2.1)).bind fun q50 =>
  (bmp q50.2.2.1 q50.2.2.2 ((putV q50.2.1 a0 8 6 (.ref ((((((sz + 1) + q6.2.2.1) + 1) + 1) + 1) + q37.2.2.1))).bind fun g56 =>
  (bmp 1 6 ((fX7_init (((((((((sz + 1) + q6.2.2.1) + 1) + 1) + 1) + q37.2.2.1) + 1) + q50.2.2.1) + 1) (hup g56 ((((((((sz + 1) + q6.2.2.1) + 1) + 1) + 1) + q37.2.2.1) + 1) + q50.2.2.1) (.inr (7, dfX7))) ((((((((sz + 1) + q6.2.2.1) + 1) + 1) + 1) + q37.2.2.1) + 1) + q50.2.2.1)).bind fun q63 =>
  (bmp q63.2.2.1 q63.2.2.2 ((putV q63.2.1 a0 8 7 (.ref ((((((((sz + 1) + q6.2.2.1) + 1) + 1) + 1) + q37.2.2.1) + 1) + q50.2.2.1))).bind fun g69 =>
  (bmp 1 48 ((putV (hup g69 ((((((((((sz + 1) + q6.2.2.1) + 1) + 1) + 1) + q37.2.2.1) + 1) + q50.2.2.1) + 1) + q63.2.2.1) (.inl (0, 48, .inl (fun _ => 0)))) a0 8 8 (.ref ((((((((((sz + 1) + q6.2.2.1) + 1) + 1) + 1) + q37.2.2.1) + 1) + q50.2.2.1) + 1) + q63.2.2.1))).bind fun g76 =>
  ((putV g76 a0 8 9 (.null)).bind fun g78 =>
  ((putV g78 a0 8 10 (.null)).bind fun g80 =>
  ((putV g80 a0 8 11 (.int (0 : Int32))).bind fun g82 =>
  ((getR g82 a0 8 5).bind fun p84 =>
  ((fX3_begin g82 p84 (4 : Int32)).bind fun q86 =>
  (some ((), q86.2, 0, 0))))))))))))))))))))))))))))))
theorem hyX8_init : hMetI yX8_init cX8_init 1 0 := ⟨wd_23, wd_22, wd_1, rfl, by decide +kernel, by decide +kernel, by decide +kernel⟩
set_option maxHeartbeats 4000000 in
set_option maxRecDepth 100000 in
theorem mX8_init (l : Launch) (E : HE) (sz : Nat) {g g' : PH} {a0 : Nat} {r : Unit} {mc ms : Nat} (hf : fX8_init sz g a0 = some (r, g', mc, ms)) : hM l E yX8_init cX8_init 1 none 5 110 mc ms sz g [.ref a0] none g' := by
  refine hM.of (by decide) (Nat.le_of_ble_eq_true rfl) (fun K hl C hin hsz => ?_)
  subst hl
  subst hsz
  have C : VC K E 1 cX8_init RX8 none := C
  have hin := hin rfl
  unfold fX8_init at hf
  have hkS : K.2.2.2.1.heap.size = kS K := rfl
  have e1 : 0 + mc = mc := Nat.zero_add _
  have e2 : 0 + ms = ms := Nat.zero_add _
  have e3 : kS K = kS K + 0 := rfl
  refine V.start (L' := [(0, .ref a0)]) rfl ?_
  refine V.aload_n (pc := 0) C dX8_init_0 0 rfl ?_
  refine V.objInit (pc := 1) C wd_24 wd_25 wd_26 (Nat.le_of_ble_eq_true rfl) ⟨Nat.le_of_ble_eq_true rfl, Nat.le_of_ble_eq_true rfl⟩ dX8_init_1 ?_
  refine V.aload_n (pc := 4) C dX8_init_4 0 rfl ?_
  replace hf := bmp_some hf
  obtain ⟨b1, b2, hf, h3, h4⟩ := hf
  refine V.new (pc := 5) C kX6 (fs := dfX6) wd_27 wd_28 wd_2 dfX6_ok (by show _ ≤ mc; omega) (by show _ ≤ ms; omega) dX8_init_5 ?_
  refine V.dup (pc := 8) C dX8_init_8 rfl ?_
  replace hf := ob_some hf
  obtain ⟨q6, h7, hf⟩ := hf
  replace hf := bmp_some hf
  obtain ⟨b8, b9, hf, h10, h11⟩ := hf
  refine V.callIN (host := RX8) (pc := 9) C hyX6_init (by decide +kernel) (mX6_init (r := q6.1) (g' := q6.2.1) (mc := q6.2.2.1) (ms := q6.2.2.2) K.2.1 E (((kS K) + 1)) h7) rfl ⟨Nat.le_of_ble_eq_true rfl, Nat.le_of_ble_eq_true rfl⟩ (Nat.le_of_ble_eq_true rfl) dX8_init_9 ⟨by show _ ≤ mc; omega, by show _ ≤ ms; omega⟩ rfl ?_
  replace hf := ob_some hf
  obtain ⟨g12, h13, hf⟩ := hf
  refine V.putF (pc := 12) C kX8 (k := 0) (by decide) wd_188 rfl hin rfl rfl rfl h13 dX8_init_12 ?_
  refine V.aload_n (pc := 15) C dX8_init_15 0 rfl ?_
  refine V.bipush (pc := 16) C dX8_init_16 (v := (8 : Int32)) (by decide) ?_
  replace hf := bmp_some hf
  obtain ⟨b14, b15, hf, h16, h17⟩ := hf
  refine V.anew4 (pc := 18) (M := 8) C wd_49 (by decide) (by decide) (by decide) (by show _ ≤ mc; omega) (by show _ ≤ ms; omega) dX8_init_18 ?_
  replace hf := ob_some hf
  obtain ⟨g19, h20, hf⟩ := hf
  refine V.putF (pc := 21) C kX8 (k := 1) (by decide) wd_189 rfl hin rfl rfl rfl h20 dX8_init_21 ?_
  refine V.aload_n (pc := 24) C dX8_init_24 0 rfl ?_
  refine V.iconst (pc := 25) C dX8_init_25 (v := (0 : Int32)) (by decide) ?_
  replace hf := ob_some hf
  obtain ⟨g21, h22, hf⟩ := hf
  refine V.putX (pc := 26) C kX8 (k := 2) (by decide) wd_190 rfl rfl rfl h22 dX8_init_26 ?_
  refine V.aload_n (pc := 29) C dX8_init_29 0 rfl ?_
  refine V.bipush (pc := 30) C dX8_init_30 (v := (6 : Int32)) (by decide) ?_
  replace hf := bmp_some hf
  obtain ⟨b23, b24, hf, h25, h26⟩ := hf
  refine V.anew5 (pc := 32) (M := 6) C wd_51 (by decide) (by decide) (by decide) (by show _ ≤ mc; omega) (by show _ ≤ ms; omega) dX8_init_32 ?_
  replace hf := ob_some hf
  obtain ⟨g28, h29, hf⟩ := hf
  refine V.putF (pc := 35) C kX8 (k := 3) (by decide) wd_191 rfl hin rfl rfl rfl h29 dX8_init_35 ?_
  refine V.aload_n (pc := 38) C dX8_init_38 0 rfl ?_
  refine V.iconst (pc := 39) C dX8_init_39 (v := (0 : Int32)) (by decide) ?_
  replace hf := ob_some hf
  obtain ⟨g30, h31, hf⟩ := hf
  refine V.putX (pc := 40) C kX8 (k := 4) (by decide) wd_192 rfl rfl rfl h31 dX8_init_40 ?_
  refine V.aload_n (pc := 43) C dX8_init_43 0 rfl ?_
  replace hf := bmp_some hf
  obtain ⟨b32, b33, hf, h34, h35⟩ := hf
  refine V.new (pc := 44) C kX3 (fs := dfX3) wd_53 wd_54 wd_3 dfX3_ok (by show _ ≤ mc; omega) (by show _ ≤ ms; omega) dX8_init_44 ?_
  refine V.dup (pc := 47) C dX8_init_47 rfl ?_
  replace hf := ob_some hf
  obtain ⟨q37, h38, hf⟩ := hf
  replace hf := bmp_some hf
  obtain ⟨b39, b40, hf, h41, h42⟩ := hf
  refine V.callIN (host := RX8) (pc := 48) C hyX3_init (by decide +kernel) (mX3_init (r := q37.1) (g' := q37.2.1) (mc := q37.2.2.1) (ms := q37.2.2.2) K.2.1 E (((((((kS K) + 1) + q6.2.2.1) + 1) + 1) + 1)) h38) rfl ⟨Nat.le_of_ble_eq_true rfl, Nat.le_of_ble_eq_true rfl⟩ (Nat.le_of_ble_eq_true rfl) dX8_init_48 ⟨by show _ ≤ mc; omega, by show _ ≤ ms; omega⟩ rfl ?_
  replace hf := ob_some hf
  obtain ⟨g43, h44, hf⟩ := hf
  refine V.putF (pc := 51) C kX8 (k := 5) (by decide) wd_193 rfl hin rfl rfl rfl h44 dX8_init_51 ?_
  refine V.aload_n (pc := 54) C dX8_init_54 0 rfl ?_
  replace hf := bmp_some hf
  obtain ⟨b45, b46, hf, h47, h48⟩ := hf
  refine V.new (pc := 55) C kX0 (fs := dfX0) wd_107 wd_108 wd_4 dfX0_ok (by show _ ≤ mc; omega) (by show _ ≤ ms; omega) dX8_init_55 ?_
  refine V.dup (pc := 58) C dX8_init_58 rfl ?_
  replace hf := ob_some hf
  obtain ⟨q50, h51, hf⟩ := hf
  replace hf := bmp_some hf
  obtain ⟨b52, b53, hf, h54, h55⟩ := hf
  refine V.callIN (host := RX8) (pc := 59) C hyX0_init (by decide +kernel) (mX0_init (r := q50.1) (g' := q50.2.1) (mc := q50.2.2.1) (ms := q50.2.2.2) K.2.1 E (((((((((kS K) + 1) + q6.2.2.1) + 1) + 1) + 1) + q37.2.2.1) + 1)) h51) rfl ⟨Nat.le_of_ble_eq_true rfl, Nat.le_of_ble_eq_true rfl⟩ (Nat.le_of_ble_eq_true rfl) dX8_init_59 ⟨by show _ ≤ mc; omega, by show _ ≤ ms; omega⟩ rfl ?_
  replace hf := ob_some hf
  obtain ⟨g56, h57, hf⟩ := hf
  refine V.putF (pc := 62) C kX8 (k := 6) (by decide) wd_194 rfl hin rfl rfl rfl h57 dX8_init_62 ?_
  refine V.aload_n (pc := 65) C dX8_init_65 0 rfl ?_
  replace hf := bmp_some hf
  obtain ⟨b58, b59, hf, h60, h61⟩ := hf
  refine V.new (pc := 66) C kX7 (fs := dfX7) wd_126 wd_127 wd_5 dfX7_ok (by show _ ≤ mc; omega) (by show _ ≤ ms; omega) dX8_init_66 ?_
  refine V.dup (pc := 69) C dX8_init_69 rfl ?_
  replace hf := ob_some hf
  obtain ⟨q63, h64, hf⟩ := hf
  replace hf := bmp_some hf
  obtain ⟨b65, b66, hf, h67, h68⟩ := hf
  refine V.callIN (host := RX8) (pc := 70) C hyX7_init (by decide +kernel) (mX7_init (r := q63.1) (g' := q63.2.1) (mc := q63.2.2.1) (ms := q63.2.2.2) K.2.1 E (((((((((((kS K) + 1) + q6.2.2.1) + 1) + 1) + 1) + q37.2.2.1) + 1) + q50.2.2.1) + 1)) h64) rfl ⟨Nat.le_of_ble_eq_true rfl, Nat.le_of_ble_eq_true rfl⟩ (Nat.le_of_ble_eq_true rfl) dX8_init_70 ⟨by show _ ≤ mc; omega, by show _ ≤ ms; omega⟩ rfl ?_
  replace hf := ob_some hf
  obtain ⟨g69, h70, hf⟩ := hf
  refine V.putF (pc := 73) C kX8 (k := 7) (by decide) wd_195 rfl hin rfl rfl rfl h70 dX8_init_73 ?_
  refine V.aload_n (pc := 76) C dX8_init_76 0 rfl ?_
  refine V.bipush (pc := 77) C dX8_init_77 (v := (48 : Int32)) (by decide) ?_
  replace hf := bmp_some hf
  obtain ⟨b71, b72, hf, h73, h74⟩ := hf
  refine V.newI (pc := 79) (M := 48) C wd_106 (by decide) (by decide) (by decide) (by show _ ≤ mc; omega) (by show _ ≤ ms; omega) dX8_init_79 ?_
  replace hf := ob_some hf
  obtain ⟨g76, h77, hf⟩ := hf
  refine V.putF (pc := 81) C kX8 (k := 8) (by decide) wd_196 rfl hin rfl rfl rfl h77 dX8_init_81 ?_
  refine V.aload_n (pc := 84) C dX8_init_84 0 rfl ?_
  refine V.null (pc := 85) C dX8_init_85 ?_
  replace hf := ob_some hf
  obtain ⟨g78, h79, hf⟩ := hf
  refine V.putX (pc := 86) C kX8 (k := 9) (by decide) wd_197 rfl rfl rfl h79 dX8_init_86 ?_
  refine V.aload_n (pc := 89) C dX8_init_89 0 rfl ?_
  refine V.null (pc := 90) C dX8_init_90 ?_
  replace hf := ob_some hf
  obtain ⟨g80, h81, hf⟩ := hf
  refine V.putX (pc := 91) C kX8 (k := 10) (by decide) wd_198 rfl rfl rfl h81 dX8_init_91 ?_
  refine V.aload_n (pc := 94) C dX8_init_94 0 rfl ?_
  refine V.iconst (pc := 95) C dX8_init_95 (v := (0 : Int32)) (by decide) ?_
  replace hf := ob_some hf
  obtain ⟨g82, h83, hf⟩ := hf
  refine V.putX (pc := 96) C kX8 (k := 11) (by decide) wd_199 rfl rfl rfl h83 dX8_init_96 ?_
  refine V.aload_n (pc := 99) C dX8_init_99 0 rfl ?_
  replace hf := ob_some hf
  obtain ⟨p84, h85, hf⟩ := hf
  refine V.getR (pc := 100) C kX8 (k := 5) (by decide) wd_193 h85 dX8_init_100 ?_
  refine V.iconst (pc := 103) C dX8_init_103 (v := (4 : Int32)) (by decide) ?_
  replace hf := ob_some hf
  obtain ⟨q86, h87, hf⟩ := hf
  refine V.callV0v (pc := 104) C hyX3_begin wd_155 (mX3_begin (r := q86.1) (g' := q86.2) K.2.1 E (((((((((((((kS K) + 1) + q6.2.2.1) + 1) + 1) + 1) + q37.2.2.1) + 1) + q50.2.2.1) + 1) + q63.2.2.1) + 1)) h87) rfl rfl rfl (oX3_begin h87) ⟨Nat.le_of_ble_eq_true rfl, Nat.le_of_ble_eq_true rfl⟩ (Nat.le_of_ble_eq_true rfl) dX8_init_104 ⟨by show _ ≤ mc; omega, by show _ ≤ ms; omega⟩ rfl ?_
  obtain ⟨f1, f2, f3, f4⟩ := fin4 hf
  clear hf
  subst f1
  subst f2
  refine V.cast (c := mc) (s := ms) (by omega) (by omega) ?_
  exact V.vret (pc := 107) C (by omega) dX8_init_107
theorem dX8_feed_0 : decode cX8_feed 0 = .ok (.aload_n 0, 1) := by decide +kernel
theorem dX8_feed_1 : decode cX8_feed 1 = .ok (.getfield 10, 3) := by decide +kernel
theorem dX8_feed_4 : decode cX8_feed 4 = .ok (.getfield 75, 3) := by decide +kernel
theorem dX8_feed_7 : decode cX8_feed 7 = .ok (.sipush 180, 3) := by decide +kernel
theorem dX8_feed_10 : decode cX8_feed 10 = .ok (.if_icmp .le 5, 3) := by decide +kernel
theorem dX8_feed_13 : decode cX8_feed 13 = .ok (.iconst (-1), 1) := by decide +kernel
theorem dX8_feed_14 : decode cX8_feed 14 = .ok (.ireturn, 1) := by decide +kernel
theorem dX8_feed_15 : decode cX8_feed 15 = .ok (.aload_n 0, 1) := by decide +kernel
theorem dX8_feed_16 : decode cX8_feed 16 = .ok (.getfield 10, 3) := by decide +kernel
theorem dX8_feed_19 : decode cX8_feed 19 = .ok (.iload_n 1, 1) := by decide +kernel
theorem dX8_feed_20 : decode cX8_feed 20 = .ok (.invokevirtual 78, 3) := by decide +kernel
theorem dX8_feed_23 : decode cX8_feed 23 = .ok (.aload_n 0, 1) := by decide +kernel
theorem dX8_feed_24 : decode cX8_feed 24 = .ok (.getfield 10, 3) := by decide +kernel
theorem dX8_feed_27 : decode cX8_feed 27 = .ok (.iload_n 2, 1) := by decide +kernel
theorem dX8_feed_28 : decode cX8_feed 28 = .ok (.invokevirtual 78, 3) := by decide +kernel
theorem dX8_feed_31 : decode cX8_feed 31 = .ok (.aload_n 0, 1) := by decide +kernel
theorem dX8_feed_32 : decode cX8_feed 32 = .ok (.getfield 10, 3) := by decide +kernel
theorem dX8_feed_35 : decode cX8_feed 35 = .ok (.iload_n 3, 1) := by decide +kernel
theorem dX8_feed_36 : decode cX8_feed 36 = .ok (.invokevirtual 78, 3) := by decide +kernel
theorem dX8_feed_39 : decode cX8_feed 39 = .ok (.aload_n 0, 1) := by decide +kernel
theorem dX8_feed_40 : decode cX8_feed 40 = .ok (.getfield 10, 3) := by decide +kernel
theorem dX8_feed_43 : decode cX8_feed 43 = .ok (.iload 4, 2) := by decide +kernel
theorem dX8_feed_45 : decode cX8_feed 45 = .ok (.invokevirtual 78, 3) := by decide +kernel
theorem dX8_feed_48 : decode cX8_feed 48 = .ok (.aload_n 0, 1) := by decide +kernel
theorem dX8_feed_49 : decode cX8_feed 49 = .ok (.getfield 10, 3) := by decide +kernel
theorem dX8_feed_52 : decode cX8_feed 52 = .ok (.iload 5, 2) := by decide +kernel
theorem dX8_feed_54 : decode cX8_feed 54 = .ok (.invokevirtual 78, 3) := by decide +kernel
theorem dX8_feed_57 : decode cX8_feed 57 = .ok (.aload_n 0, 1) := by decide +kernel
theorem dX8_feed_58 : decode cX8_feed 58 = .ok (.getfield 10, 3) := by decide +kernel
theorem dX8_feed_61 : decode cX8_feed 61 = .ok (.getfield 75, 3) := by decide +kernel
theorem dX8_feed_64 : decode cX8_feed 64 = .ok (.ireturn, 1) := by decide +kernel
def fX8_feed (g : PH) (a0 : Nat) (a1 : Int32) (a2 : Int32) (a3 : Int32) (a4 : Int32) (a5 : Int32) : Option (Int32 × PH) :=
  okb (isO g a0 8) ((getR g a0 8 0).bind fun p1 =>
  ((getI g p1 6 1).bind fun x3 =>
  (if x3 ≤ (180 : Int32) then ((getR g a0 8 0).bind fun p6 =>
  ((fX6_append g p6 a1).bind fun q8 =>
  ((getR q8.2 a0 8 0).bind fun p10 =>
  ((fX6_append q8.2 p10 a2).bind fun q12 =>
  ((getR q12.2 a0 8 0).bind fun p14 =>
  ((fX6_append q12.2 p14 a3).bind fun q16 =>
  ((getR q16.2 a0 8 0).bind fun p18 =>
  ((fX6_append q16.2 p18 a4).bind fun q20 =>
  ((getR q20.2 a0 8 0).bind fun p22 =>
  ((fX6_append q20.2 p22 a5).bind fun q24 =>
  ((getR q24.2 a0 8 0).bind fun p26 =>
  ((getI q24.2 p26 6 1).bind fun x28 =>
  (some (x28, q24.2)))))))))))))) else
  (some ((-1 : Int32), g)))))
theorem oX8_feed {g : PH} {a0 : Nat} {a1 : Int32} {a2 : Int32} {a3 : Int32} {a4 : Int32} {a5 : Int32} {q : (Int32 × PH)} (h : fX8_feed g a0 a1 a2 a3 a4 a5 = some q) : isO g a0 8 = true := by unfold fX8_feed at h; exact (okb_some h).1
theorem hyX8_feed : hMet yX8_feed RX8 cX8_feed 6 (some .int) 5 := ⟨wd_228, wd_226, wd_227, wd_1, rfl, by decide +kernel, by decide +kernel, by decide +kernel⟩
set_option maxHeartbeats 4000000 in
set_option maxRecDepth 100000 in
theorem mX8_feed (l : Launch) (E : HE) (sz : Nat) {g g' : PH} {a0 : Nat} {a1 : Int32} {a2 : Int32} {a3 : Int32} {a4 : Int32} {a5 : Int32} {r : Int32} (hf : fX8_feed g a0 a1 a2 a3 a4 a5 = some (r, g')) : hM l E yX8_feed cX8_feed 6 (some .int) 1 22 0 0 sz g [.ref a0, .int a1, .int a2, .int a3, .int a4, .int a5] (some (.int r)) g' := by
  refine hM.of (by decide) (Nat.le_of_ble_eq_true rfl) (fun K hl C hin hsz => ?_)
  subst hl
  subst hsz
  have C : VC K E 6 cX8_feed RX8 (some .int) := C
  unfold fX8_feed at hf
  replace hf := okb_some hf
  obtain ⟨ho, hf⟩ := hf
  refine V.start (L' := [(0, .ref a0), (1, .int a1), (2, .int a2), (3, .int a3), (4, .int a4), (5, .int a5)]) rfl ?_
  refine V.aload_n (pc := 0) C dX8_feed_0 0 rfl ?_
  replace hf := ob_some hf
  obtain ⟨p1, h2, hf⟩ := hf
  refine V.getR (pc := 1) C kX8 (k := 0) (by decide) wd_188 h2 dX8_feed_1 ?_
  replace hf := ob_some hf
  obtain ⟨x3, h4, hf⟩ := hf
  refine V.getI (pc := 4) C kX6 (k := 1) (by decide) wd_35 h4 dX8_feed_4 ?_
  refine V.sipush (pc := 7) C dX8_feed_7 (v := (180 : Int32)) (by decide) ?_
  refine V.icmp_le (pc := 10) (t := 15) C dX8_feed_10 (by decide) (fun c5 => ?_) (fun c5 => ?_)
  · replace hf := ite_t c5 hf
    refine V.aload_n (pc := 15) C dX8_feed_15 0 rfl ?_
    replace hf := ob_some hf
    obtain ⟨p6, h7, hf⟩ := hf
    refine V.getR (pc := 16) C kX8 (k := 0) (by decide) wd_188 h7 dX8_feed_16 ?_
    refine V.iload_n (pc := 19) C dX8_feed_19 1 rfl ?_
    replace hf := ob_some hf
    obtain ⟨q8, h9, hf⟩ := hf
    refine V.callV0v (pc := 20) C hyX6_append wd_229 (mX6_append (r := q8.1) (g' := q8.2) K.2.1 E (kS K) h9) rfl rfl rfl (oX6_append h9) ⟨Nat.le_of_ble_eq_true rfl, Nat.le_of_ble_eq_true rfl⟩ (Nat.le_of_ble_eq_true rfl) dX8_feed_20 ⟨Nat.zero_le _, Nat.zero_le _⟩ rfl ?_
    refine V.aload_n (pc := 23) C dX8_feed_23 0 rfl ?_
    replace hf := ob_some hf
    obtain ⟨p10, h11, hf⟩ := hf
    refine V.getR (pc := 24) C kX8 (k := 0) (by decide) wd_188 h11 dX8_feed_24 ?_
    refine V.iload_n (pc := 27) C dX8_feed_27 2 rfl ?_
    replace hf := ob_some hf
    obtain ⟨q12, h13, hf⟩ := hf
    refine V.callV0v (pc := 28) C hyX6_append wd_229 (mX6_append (r := q12.1) (g' := q12.2) K.2.1 E (kS K) h13) rfl rfl rfl (oX6_append h13) ⟨Nat.le_of_ble_eq_true rfl, Nat.le_of_ble_eq_true rfl⟩ (Nat.le_of_ble_eq_true rfl) dX8_feed_28 ⟨Nat.zero_le _, Nat.zero_le _⟩ rfl ?_
    refine V.aload_n (pc := 31) C dX8_feed_31 0 rfl ?_
    replace hf := ob_some hf
    obtain ⟨p14, h15, hf⟩ := hf
    refine V.getR (pc := 32) C kX8 (k := 0) (by decide) wd_188 h15 dX8_feed_32 ?_
    refine V.iload_n (pc := 35) C dX8_feed_35 3 rfl ?_
    replace hf := ob_some hf
    obtain ⟨q16, h17, hf⟩ := hf
    refine V.callV0v (pc := 36) C hyX6_append wd_229 (mX6_append (r := q16.1) (g' := q16.2) K.2.1 E (kS K) h17) rfl rfl rfl (oX6_append h17) ⟨Nat.le_of_ble_eq_true rfl, Nat.le_of_ble_eq_true rfl⟩ (Nat.le_of_ble_eq_true rfl) dX8_feed_36 ⟨Nat.zero_le _, Nat.zero_le _⟩ rfl ?_
    refine V.aload_n (pc := 39) C dX8_feed_39 0 rfl ?_
    replace hf := ob_some hf
    obtain ⟨p18, h19, hf⟩ := hf
    refine V.getR (pc := 40) C kX8 (k := 0) (by decide) wd_188 h19 dX8_feed_40 ?_
    refine V.iload (pc := 43) C dX8_feed_43 4 rfl ?_
    replace hf := ob_some hf
    obtain ⟨q20, h21, hf⟩ := hf
    refine V.callV0v (pc := 45) C hyX6_append wd_229 (mX6_append (r := q20.1) (g' := q20.2) K.2.1 E (kS K) h21) rfl rfl rfl (oX6_append h21) ⟨Nat.le_of_ble_eq_true rfl, Nat.le_of_ble_eq_true rfl⟩ (Nat.le_of_ble_eq_true rfl) dX8_feed_45 ⟨Nat.zero_le _, Nat.zero_le _⟩ rfl ?_
    refine V.aload_n (pc := 48) C dX8_feed_48 0 rfl ?_
    replace hf := ob_some hf
    obtain ⟨p22, h23, hf⟩ := hf
    refine V.getR (pc := 49) C kX8 (k := 0) (by decide) wd_188 h23 dX8_feed_49 ?_
    refine V.iload (pc := 52) C dX8_feed_52 5 rfl ?_
    replace hf := ob_some hf
    obtain ⟨q24, h25, hf⟩ := hf
    refine V.callV0v (pc := 54) C hyX6_append wd_229 (mX6_append (r := q24.1) (g' := q24.2) K.2.1 E (kS K) h25) rfl rfl rfl (oX6_append h25) ⟨Nat.le_of_ble_eq_true rfl, Nat.le_of_ble_eq_true rfl⟩ (Nat.le_of_ble_eq_true rfl) dX8_feed_54 ⟨Nat.zero_le _, Nat.zero_le _⟩ rfl ?_
    refine V.aload_n (pc := 57) C dX8_feed_57 0 rfl ?_
    replace hf := ob_some hf
    obtain ⟨p26, h27, hf⟩ := hf
    refine V.getR (pc := 58) C kX8 (k := 0) (by decide) wd_188 h27 dX8_feed_58 ?_
    replace hf := ob_some hf
    obtain ⟨x28, h29, hf⟩ := hf
    refine V.getI (pc := 61) C kX6 (k := 1) (by decide) wd_35 h29 dX8_feed_61 ?_
    obtain ⟨f1, f2⟩ := fin2 hf
    clear hf
    subst f1
    subst f2
    exact V.iret (pc := 64) C rfl dX8_feed_64
  replace hf := ite_f c5 hf
  refine V.iconst (pc := 13) C dX8_feed_13 (v := (-1 : Int32)) (by decide) ?_
  obtain ⟨f1, f2⟩ := fin2 hf
  clear hf
  subst f1
  subst f2
  exact V.iret (pc := 14) C rfl dX8_feed_14
theorem dX8_end_0 : decode cX8_end 0 = .ok (.iload_n 1, 1) := by decide +kernel
theorem dX8_end_1 : decode cX8_end 1 = .ok (.ifCond .lt 14, 3) := by decide +kernel
theorem dX8_end_4 : decode cX8_end 4 = .ok (.iload_n 1, 1) := by decide +kernel
theorem dX8_end_5 : decode cX8_end 5 = .ok (.aload_n 0, 1) := by decide +kernel
theorem dX8_end_6 : decode cX8_end 6 = .ok (.getfield 10, 3) := by decide +kernel
theorem dX8_end_9 : decode cX8_end 9 = .ok (.getfield 75, 3) := by decide +kernel
theorem dX8_end_12 : decode cX8_end 12 = .ok (.if_icmp .le 5, 3) := by decide +kernel
theorem dX8_end_15 : decode cX8_end 15 = .ok (.iconst (-1), 1) := by decide +kernel
theorem dX8_end_16 : decode cX8_end 16 = .ok (.ireturn, 1) := by decide +kernel
theorem dX8_end_17 : decode cX8_end 17 = .ok (.aload_n 0, 1) := by decide +kernel
theorem dX8_end_18 : decode cX8_end 18 = .ok (.getfield 10, 3) := by decide +kernel
theorem dX8_end_21 : decode cX8_end 21 = .ok (.iload_n 1, 1) := by decide +kernel
theorem dX8_end_22 : decode cX8_end 22 = .ok (.putfield 75, 3) := by decide +kernel
theorem dX8_end_25 : decode cX8_end 25 = .ok (.iload_n 1, 1) := by decide +kernel
theorem dX8_end_26 : decode cX8_end 26 = .ok (.ireturn, 1) := by decide +kernel
def fX8_end (g : PH) (a0 : Nat) (a1 : Int32) : Option (Int32 × PH) :=
  okb (isO g a0 8) (if a1 < 0 then (some ((-1 : Int32), g)) else
  ((getR g a0 8 0).bind fun p2 =>
  ((getI g p2 6 1).bind fun x4 =>
  (if a1 ≤ x4 then ((getR g a0 8 0).bind fun p7 =>
  ((putV g p7 6 1 (.int a1)).bind fun g9 =>
  (some (a1, g9)))) else
  (some ((-1 : Int32), g))))))
theorem oX8_end {g : PH} {a0 : Nat} {a1 : Int32} {q : (Int32 × PH)} (h : fX8_end g a0 a1 = some q) : isO g a0 8 = true := by unfold fX8_end at h; exact (okb_some h).1
theorem hyX8_end : hMet yX8_end RX8 cX8_end 2 (some .int) 1 := ⟨wd_236, wd_234, wd_235, wd_1, rfl, by decide +kernel, by decide +kernel, by decide +kernel⟩
set_option maxHeartbeats 4000000 in
set_option maxRecDepth 100000 in
theorem mX8_end (l : Launch) (E : HE) (sz : Nat) {g g' : PH} {a0 : Nat} {a1 : Int32} {r : Int32} (hf : fX8_end g a0 a1 = some (r, g')) : hM l E yX8_end cX8_end 2 (some .int) 0 0 0 0 sz g [.ref a0, .int a1] (some (.int r)) g' := by
  refine hM.of (by decide) (Nat.le_of_ble_eq_true rfl) (fun K hl C hin hsz => ?_)
  subst hl
  subst hsz
  have C : VC K E 2 cX8_end RX8 (some .int) := C
  unfold fX8_end at hf
  replace hf := okb_some hf
  obtain ⟨ho, hf⟩ := hf
  refine V.start (L' := [(0, .ref a0), (1, .int a1)]) rfl ?_
  refine V.iload_n (pc := 0) C dX8_end_0 1 rfl ?_
  refine V.if_lt (pc := 1) (t := 15) C dX8_end_1 (by decide) (fun c1 => ?_) (fun c1 => ?_)
  · replace hf := ite_t c1 hf
    refine V.iconst (pc := 15) C dX8_end_15 (v := (-1 : Int32)) (by decide) ?_
    obtain ⟨f1, f2⟩ := fin2 hf
    clear hf
    subst f1
    subst f2
    exact V.iret (pc := 16) C rfl dX8_end_16
  replace hf := ite_f c1 hf
  refine V.iload_n (pc := 4) C dX8_end_4 1 rfl ?_
  refine V.aload_n (pc := 5) C dX8_end_5 0 rfl ?_
  replace hf := ob_some hf
  obtain ⟨p2, h3, hf⟩ := hf
  refine V.getR (pc := 6) C kX8 (k := 0) (by decide) wd_188 h3 dX8_end_6 ?_
  replace hf := ob_some hf
  obtain ⟨x4, h5, hf⟩ := hf
  refine V.getI (pc := 9) C kX6 (k := 1) (by decide) wd_35 h5 dX8_end_9 ?_
  refine V.icmp_le (pc := 12) (t := 17) C dX8_end_12 (by decide) (fun c6 => ?_) (fun c6 => ?_)
  · replace hf := ite_t c6 hf
    refine V.aload_n (pc := 17) C dX8_end_17 0 rfl ?_
    replace hf := ob_some hf
    obtain ⟨p7, h8, hf⟩ := hf
    refine V.getR (pc := 18) C kX8 (k := 0) (by decide) wd_188 h8 dX8_end_18 ?_
    refine V.iload_n (pc := 21) C dX8_end_21 1 rfl ?_
    replace hf := ob_some hf
    obtain ⟨g9, h10, hf⟩ := hf
    refine V.putX (pc := 22) C kX6 (k := 1) (by decide) wd_35 rfl rfl rfl h10 dX8_end_22 ?_
    refine V.iload_n (pc := 25) C dX8_end_25 1 rfl ?_
    obtain ⟨f1, f2⟩ := fin2 hf
    clear hf
    subst f1
    subst f2
    exact V.iret (pc := 26) C rfl dX8_end_26
  replace hf := ite_f c6 hf
  refine V.iconst (pc := 15) C dX8_end_15 (v := (-1 : Int32)) (by decide) ?_
  obtain ⟨f1, f2⟩ := fin2 hf
  clear hf
  subst f1
  subst f2
  exact V.iret (pc := 16) C rfl dX8_end_16
theorem dX8_kind_0 : decode cX8_kind 0 = .ok (.aload_n 0, 1) := by decide +kernel
theorem dX8_kind_1 : decode cX8_kind 1 = .ok (.getfield 22, 3) := by decide +kernel
theorem dX8_kind_4 : decode cX8_kind 4 = .ok (.bipush 8, 2) := by decide +kernel
theorem dX8_kind_6 : decode cX8_kind 6 = .ok (.if_icmp .ge 15, 3) := by decide +kernel
theorem dX8_kind_9 : decode cX8_kind 9 = .ok (.aload_n 0, 1) := by decide +kernel
theorem dX8_kind_10 : decode cX8_kind 10 = .ok (.getfield 10, 3) := by decide +kernel
theorem dX8_kind_13 : decode cX8_kind 13 = .ok (.getfield 75, 3) := by decide +kernel
theorem dX8_kind_16 : decode cX8_kind 16 = .ok (.bipush 100, 2) := by decide +kernel
theorem dX8_kind_18 : decode cX8_kind 18 = .ok (.if_icmp .le 5, 3) := by decide +kernel
theorem dX8_kind_21 : decode cX8_kind 21 = .ok (.iconst (-1), 1) := by decide +kernel
theorem dX8_kind_22 : decode cX8_kind 22 = .ok (.ireturn, 1) := by decide +kernel
theorem dX8_kind_23 : decode cX8_kind 23 = .ok (.new 16, 3) := by decide +kernel
theorem dX8_kind_26 : decode cX8_kind 26 = .ok (.dup, 1) := by decide +kernel
theorem dX8_kind_27 : decode cX8_kind 27 = .ok (.invokespecial 81, 3) := by decide +kernel
theorem dX8_kind_30 : decode cX8_kind 30 = .ok (.astore_n 1, 1) := by decide +kernel
theorem dX8_kind_31 : decode cX8_kind 31 = .ok (.aload_n 1, 1) := by decide +kernel
theorem dX8_kind_32 : decode cX8_kind 32 = .ok (.aload_n 0, 1) := by decide +kernel
theorem dX8_kind_33 : decode cX8_kind 33 = .ok (.getfield 10, 3) := by decide +kernel
theorem dX8_kind_36 : decode cX8_kind 36 = .ok (.invokevirtual 82, 3) := by decide +kernel
theorem dX8_kind_39 : decode cX8_kind 39 = .ok (.aload_n 0, 1) := by decide +kernel
theorem dX8_kind_40 : decode cX8_kind 40 = .ok (.getfield 10, 3) := by decide +kernel
theorem dX8_kind_43 : decode cX8_kind 43 = .ok (.iconst 0, 1) := by decide +kernel
theorem dX8_kind_44 : decode cX8_kind 44 = .ok (.putfield 75, 3) := by decide +kernel
theorem dX8_kind_47 : decode cX8_kind 47 = .ok (.aload_n 0, 1) := by decide +kernel
theorem dX8_kind_48 : decode cX8_kind 48 = .ok (.getfield 10, 3) := by decide +kernel
theorem dX8_kind_51 : decode cX8_kind 51 = .ok (.getfield 86, 3) := by decide +kernel
theorem dX8_kind_54 : decode cX8_kind 54 = .ok (.ifCond .eq 14, 3) := by decide +kernel
theorem dX8_kind_57 : decode cX8_kind 57 = .ok (.bipush (-2), 2) := by decide +kernel
theorem dX8_kind_59 : decode cX8_kind 59 = .ok (.aload_n 0, 1) := by decide +kernel
theorem dX8_kind_60 : decode cX8_kind 60 = .ok (.getfield 10, 3) := by decide +kernel
theorem dX8_kind_63 : decode cX8_kind 63 = .ok (.getfield 86, 3) := by decide +kernel
theorem dX8_kind_66 : decode cX8_kind 66 = .ok (.isub, 1) := by decide +kernel
theorem dX8_kind_67 : decode cX8_kind 67 = .ok (.ireturn, 1) := by decide +kernel
theorem dX8_kind_68 : decode cX8_kind 68 = .ok (.aload_n 1, 1) := by decide +kernel
theorem dX8_kind_69 : decode cX8_kind 69 = .ok (.invokevirtual 89, 3) := by decide +kernel
theorem dX8_kind_72 : decode cX8_kind 72 = .ok (.aload_n 0, 1) := by decide +kernel
theorem dX8_kind_73 : decode cX8_kind 73 = .ok (.getfield 18, 3) := by decide +kernel
theorem dX8_kind_76 : decode cX8_kind 76 = .ok (.aload_n 0, 1) := by decide +kernel
theorem dX8_kind_77 : decode cX8_kind 77 = .ok (.getfield 22, 3) := by decide +kernel
theorem dX8_kind_80 : decode cX8_kind 80 = .ok (.aload_n 1, 1) := by decide +kernel
theorem dX8_kind_81 : decode cX8_kind 81 = .ok (.aastore, 1) := by decide +kernel
theorem dX8_kind_82 : decode cX8_kind 82 = .ok (.aload_n 0, 1) := by decide +kernel
theorem dX8_kind_83 : decode cX8_kind 83 = .ok (.dup, 1) := by decide +kernel
theorem dX8_kind_84 : decode cX8_kind 84 = .ok (.getfield 22, 3) := by decide +kernel
theorem dX8_kind_87 : decode cX8_kind 87 = .ok (.iconst 1, 1) := by decide +kernel
theorem dX8_kind_88 : decode cX8_kind 88 = .ok (.iadd, 1) := by decide +kernel
theorem dX8_kind_89 : decode cX8_kind 89 = .ok (.putfield 22, 3) := by decide +kernel
theorem dX8_kind_92 : decode cX8_kind 92 = .ok (.aload_n 0, 1) := by decide +kernel
theorem dX8_kind_93 : decode cX8_kind 93 = .ok (.getfield 22, 3) := by decide +kernel
theorem dX8_kind_96 : decode cX8_kind 96 = .ok (.iconst 1, 1) := by decide +kernel
theorem dX8_kind_97 : decode cX8_kind 97 = .ok (.isub, 1) := by decide +kernel
theorem dX8_kind_98 : decode cX8_kind 98 = .ok (.ireturn, 1) := by decide +kernel
def fX8_kind (sz : Nat) (g : PH) (a0 : Nat) : Option (Int32 × PH × Nat × Nat) :=
  okb (isO g a0 8) ((getI g a0 8 2).bind fun x1 =>
  (if (8 : Int32) ≤ x1 then (some ((-1 : Int32), g, 0, 0)) else
  ((getR g a0 8 0).bind fun p4 =>
  ((getI g p4 6 1).bind fun x6 =>
  (if x6 ≤ (100 : Int32) then (bmp 1 9 ((fX1_init (sz + 1) (hup g sz (.inr (1, dfX1))) sz).bind fun q14 =>
  (bmp q14.2.2.1 q14.2.2.2 ((getR q14.2.1 a0 8 0).bind fun p20 =>
  ((fX1_scan q14.2.1 sz p20).bind fun q22 =>
  ((getR q22.2 a0 8 0).bind fun p24 =>
  ((putV q22.2 p24 6 1 (.int (0 : Int32))).bind fun g26 =>
  ((getR g26 a0 8 0).bind fun p28 =>
  ((getI g26 p28 6 3).bind fun x30 =>
  (if x30 = 0 then ((fX1_prepare g26 sz).bind fun q33 =>
  ((getR q33.2 a0 8 1).bind fun p35 =>
  ((getI q33.2 a0 8 2).bind fun x37 =>
  ((stQ q33.2 p35 4 1 x37 sz).bind fun g39 =>
  ((getI g39 a0 8 2).bind fun x41 =>
  ((putV g39 a0 8 2 (.int (x41 + (1 : Int32)))).bind fun g43 =>
  ((getI g43 a0 8 2).bind fun x45 =>
  (some ((x45 - (1 : Int32)), g43, 0, 0))))))))) else
  ((getR g26 a0 8 0).bind fun p47 =>
  ((getI g26 p47 6 3).bind fun x49 =>
  (some (((-2 : Int32) - x49), g26, 0, 0)))))))))))))) else
  (some ((-1 : Int32), g, 0, 0)))))))
theorem oX8_kind {g : PH} {sz : Nat} {a0 : Nat} {q : (Int32 × PH × Nat × Nat)} (h : fX8_kind sz g a0 = some q) : isO g a0 8 = true := by unfold fX8_kind at h; exact (okb_some h).1
theorem hyX8_kind : hMet yX8_kind RX8 cX8_kind 2 (some .int) 0 := ⟨wd_240, wd_238, wd_239, wd_1, rfl, by decide +kernel, by decide +kernel, by decide +kernel⟩
set_option maxHeartbeats 4000000 in
set_option maxRecDepth 100000 in
theorem mX8_kind (l : Launch) (E : HE) (sz : Nat) {g g' : PH} {a0 : Nat} {r : Int32} {mc ms : Nat} (hf : fX8_kind sz g a0 = some (r, g', mc, ms)) : hM l E yX8_kind cX8_kind 2 (some .int) 8 183 mc ms sz g [.ref a0] (some (.int r)) g' := by
  refine hM.of (by decide) (Nat.le_of_ble_eq_true rfl) (fun K hl C hin hsz => ?_)
  subst hl
  subst hsz
  have C : VC K E 2 cX8_kind RX8 (some .int) := C
  unfold fX8_kind at hf
  replace hf := okb_some hf
  obtain ⟨ho, hf⟩ := hf
  have hkS : K.2.2.2.1.heap.size = kS K := rfl
  have e1 : 0 + mc = mc := Nat.zero_add _
  have e2 : 0 + ms = ms := Nat.zero_add _
  have e3 : kS K = kS K + 0 := rfl
  refine V.start (L' := [(0, .ref a0)]) rfl ?_
  refine V.aload_n (pc := 0) C dX8_kind_0 0 rfl ?_
  replace hf := ob_some hf
  obtain ⟨x1, h2, hf⟩ := hf
  refine V.getI (pc := 1) C kX8 (k := 2) (by decide) wd_190 h2 dX8_kind_1 ?_
  refine V.bipush (pc := 4) C dX8_kind_4 (v := (8 : Int32)) (by decide) ?_
  refine V.icmp_ge (pc := 6) (t := 21) C dX8_kind_6 (by decide) (fun c3 => ?_) (fun c3 => ?_)
  · replace hf := ite_t c3 hf
    refine V.iconst (pc := 21) C dX8_kind_21 (v := (-1 : Int32)) (by decide) ?_
    obtain ⟨f1, f2, f3, f4⟩ := fin4 hf
    clear hf
    subst f1
    subst f2
    refine V.cast (c := mc) (s := ms) (by omega) (by omega) ?_
    exact V.iret (pc := 22) C (by omega) dX8_kind_22
  replace hf := ite_f c3 hf
  refine V.aload_n (pc := 9) C dX8_kind_9 0 rfl ?_
  replace hf := ob_some hf
  obtain ⟨p4, h5, hf⟩ := hf
  refine V.getR (pc := 10) C kX8 (k := 0) (by decide) wd_188 h5 dX8_kind_10 ?_
  replace hf := ob_some hf
  obtain ⟨x6, h7, hf⟩ := hf
  refine V.getI (pc := 13) C kX6 (k := 1) (by decide) wd_35 h7 dX8_kind_13 ?_
  refine V.bipush (pc := 16) C dX8_kind_16 (v := (100 : Int32)) (by decide) ?_
  refine V.icmp_le (pc := 18) (t := 23) C dX8_kind_18 (by decide) (fun c8 => ?_) (fun c8 => ?_)
  · replace hf := ite_t c8 hf
    replace hf := bmp_some hf
    obtain ⟨b9, b10, hf, h11, h12⟩ := hf
    refine V.new (pc := 23) C kX1 (fs := dfX1) wd_49 wd_241 wd_8 dfX1_ok (by show _ ≤ mc; omega) (by show _ ≤ ms; omega) dX8_kind_23 ?_
    refine V.dup (pc := 26) C dX8_kind_26 rfl ?_
    replace hf := ob_some hf
    obtain ⟨q14, h15, hf⟩ := hf
    replace hf := bmp_some hf
    obtain ⟨b16, b17, hf, h18, h19⟩ := hf
    refine V.callIN (host := RX8) (pc := 27) C hyX1_init (by decide +kernel) (mX1_init (r := q14.1) (g' := q14.2.1) (mc := q14.2.2.1) (ms := q14.2.2.2) K.2.1 E (((kS K) + 1)) h15) rfl ⟨Nat.le_of_ble_eq_true rfl, Nat.le_of_ble_eq_true rfl⟩ (Nat.le_of_ble_eq_true rfl) dX8_kind_27 ⟨by show _ ≤ mc; omega, by show _ ≤ ms; omega⟩ rfl ?_
    refine V.astore_nQ (pc := 30) (L' := [(1, .ref (kS K)), (0, .ref a0)]) C (x := some (kS K)) dX8_kind_30 (by decide) rfl ?_
    refine V.aload_n (pc := 31) C dX8_kind_31 0 rfl ?_
    refine V.aload_n (pc := 32) C dX8_kind_32 1 rfl ?_
    replace hf := ob_some hf
    obtain ⟨p20, h21, hf⟩ := hf
    refine V.getR (pc := 33) C kX8 (k := 0) (by decide) wd_188 h21 dX8_kind_33 ?_
    replace hf := ob_some hf
    obtain ⟨q22, h23, hf⟩ := hf
    refine V.callV0v (pc := 36) C hyX1_scan wd_276 (mX1_scan (r := q22.1) (g' := q22.2) K.2.1 E ((((kS K) + 1) + q14.2.2.1)) h23) rfl rfl rfl (oX1_scan h23) ⟨Nat.le_of_ble_eq_true rfl, Nat.le_of_ble_eq_true rfl⟩ (Nat.le_of_ble_eq_true rfl) dX8_kind_36 ⟨by show _ ≤ mc; omega, by show _ ≤ ms; omega⟩ rfl ?_
    refine V.aload_n (pc := 39) C dX8_kind_39 1 rfl ?_
    replace hf := ob_some hf
    obtain ⟨p24, h25, hf⟩ := hf
    refine V.getR (pc := 40) C kX8 (k := 0) (by decide) wd_188 h25 dX8_kind_40 ?_
    refine V.iconst (pc := 43) C dX8_kind_43 (v := (0 : Int32)) (by decide) ?_
    replace hf := ob_some hf
    obtain ⟨g26, h27, hf⟩ := hf
    refine V.putX (pc := 44) C kX6 (k := 1) (by decide) wd_35 rfl rfl rfl h27 dX8_kind_44 ?_
    refine V.aload_n (pc := 47) C dX8_kind_47 1 rfl ?_
    replace hf := ob_some hf
    obtain ⟨p28, h29, hf⟩ := hf
    refine V.getR (pc := 48) C kX8 (k := 0) (by decide) wd_188 h29 dX8_kind_48 ?_
    replace hf := ob_some hf
    obtain ⟨x30, h31, hf⟩ := hf
    refine V.getI (pc := 51) C kX6 (k := 3) (by decide) wd_38 h31 dX8_kind_51 ?_
    refine V.if_eq (pc := 54) (t := 68) C dX8_kind_54 (by decide) (fun c32 => ?_) (fun c32 => ?_)
    · replace hf := ite_t c32 hf
      refine V.aload_n (pc := 68) C dX8_kind_68 0 rfl ?_
      replace hf := ob_some hf
      obtain ⟨q33, h34, hf⟩ := hf
      refine V.callV0v (pc := 69) C hyX1_prepare wd_403 (mX1_prepare (r := q33.1) (g' := q33.2) K.2.1 E ((((kS K) + 1) + q14.2.2.1)) h34) rfl rfl rfl (oX1_prepare h34) ⟨Nat.le_of_ble_eq_true rfl, Nat.le_of_ble_eq_true rfl⟩ (Nat.le_of_ble_eq_true rfl) dX8_kind_69 ⟨by show _ ≤ mc; omega, by show _ ≤ ms; omega⟩ rfl ?_
      refine V.aload_n (pc := 72) C dX8_kind_72 1 rfl ?_
      replace hf := ob_some hf
      obtain ⟨p35, h36, hf⟩ := hf
      refine V.getR (pc := 73) C kX8 (k := 1) (by decide) wd_189 h36 dX8_kind_73 ?_
      refine V.aload_n (pc := 76) C dX8_kind_76 1 rfl ?_
      replace hf := ob_some hf
      obtain ⟨x37, h38, hf⟩ := hf
      refine V.getI (pc := 77) C kX8 (k := 2) (by decide) wd_190 h38 dX8_kind_77 ?_
      refine V.aload_n (pc := 80) C dX8_kind_80 0 rfl ?_
      replace hf := ob_some hf
      obtain ⟨g39, h40, hf⟩ := hf
      refine V.aast4 (pc := 81) C h40 dX8_kind_81 ?_
      refine V.aload_n (pc := 82) C dX8_kind_82 1 rfl ?_
      refine V.dup (pc := 83) C dX8_kind_83 rfl ?_
      replace hf := ob_some hf
      obtain ⟨x41, h42, hf⟩ := hf
      refine V.getI (pc := 84) C kX8 (k := 2) (by decide) wd_190 h42 dX8_kind_84 ?_
      refine V.iconst (pc := 87) C dX8_kind_87 (v := (1 : Int32)) (by decide) ?_
      refine V.iadd (pc := 88) C dX8_kind_88 ?_
      replace hf := ob_some hf
      obtain ⟨g43, h44, hf⟩ := hf
      refine V.putX (pc := 89) C kX8 (k := 2) (by decide) wd_190 rfl rfl rfl h44 dX8_kind_89 ?_
      refine V.aload_n (pc := 92) C dX8_kind_92 1 rfl ?_
      replace hf := ob_some hf
      obtain ⟨x45, h46, hf⟩ := hf
      refine V.getI (pc := 93) C kX8 (k := 2) (by decide) wd_190 h46 dX8_kind_93 ?_
      refine V.iconst (pc := 96) C dX8_kind_96 (v := (1 : Int32)) (by decide) ?_
      refine V.isub (pc := 97) C dX8_kind_97 ?_
      obtain ⟨f1, f2, f3, f4⟩ := fin4 hf
      clear hf
      subst f1
      subst f2
      refine V.cast (c := mc) (s := ms) (by omega) (by omega) ?_
      exact V.iret (pc := 98) C (by omega) dX8_kind_98
    replace hf := ite_f c32 hf
    refine V.bipush (pc := 57) C dX8_kind_57 (v := (-2 : Int32)) (by decide) ?_
    refine V.aload_n (pc := 59) C dX8_kind_59 1 rfl ?_
    replace hf := ob_some hf
    obtain ⟨p47, h48, hf⟩ := hf
    refine V.getR (pc := 60) C kX8 (k := 0) (by decide) wd_188 h48 dX8_kind_60 ?_
    replace hf := ob_some hf
    obtain ⟨x49, h50, hf⟩ := hf
    refine V.getI (pc := 63) C kX6 (k := 3) (by decide) wd_38 h50 dX8_kind_63 ?_
    refine V.isub (pc := 66) C (x := (-2 : Int32)) (y := x49) dX8_kind_66 ?_
    obtain ⟨f1, f2, f3, f4⟩ := fin4 hf
    clear hf
    subst f1
    subst f2
    refine V.cast (c := mc) (s := ms) (by omega) (by omega) ?_
    exact V.iret (pc := 67) C (by omega) dX8_kind_67
  replace hf := ite_f c8 hf
  refine V.iconst (pc := 21) C dX8_kind_21 (v := (-1 : Int32)) (by decide) ?_
  obtain ⟨f1, f2, f3, f4⟩ := fin4 hf
  clear hf
  subst f1
  subst f2
  refine V.cast (c := mc) (s := ms) (by omega) (by omega) ?_
  exact V.iret (pc := 22) C (by omega) dX8_kind_22
theorem dX8_march_0 : decode cX8_march 0 = .ok (.aload_n 0, 1) := by decide +kernel
theorem dX8_march_1 : decode cX8_march 1 = .ok (.getfield 32, 3) := by decide +kernel
theorem dX8_march_4 : decode cX8_march 4 = .ok (.bipush 6, 2) := by decide +kernel
theorem dX8_march_6 : decode cX8_march 6 = .ok (.if_icmp .lt 5, 3) := by decide +kernel
theorem dX8_march_9 : decode cX8_march 9 = .ok (.iconst (-1), 1) := by decide +kernel
theorem dX8_march_10 : decode cX8_march 10 = .ok (.ireturn, 1) := by decide +kernel
theorem dX8_march_11 : decode cX8_march 11 = .ok (.new 26, 3) := by decide +kernel
theorem dX8_march_14 : decode cX8_march 14 = .ok (.dup, 1) := by decide +kernel
theorem dX8_march_15 : decode cX8_march 15 = .ok (.invokespecial 92, 3) := by decide +kernel
theorem dX8_march_18 : decode cX8_march 18 = .ok (.astore_n 1, 1) := by decide +kernel
theorem dX8_march_19 : decode cX8_march 19 = .ok (.aload_n 1, 1) := by decide +kernel
theorem dX8_march_20 : decode cX8_march 20 = .ok (.aload_n 0, 1) := by decide +kernel
theorem dX8_march_21 : decode cX8_march 21 = .ok (.getfield 10, 3) := by decide +kernel
theorem dX8_march_24 : decode cX8_march 24 = .ok (.invokevirtual 93, 3) := by decide +kernel
theorem dX8_march_27 : decode cX8_march 27 = .ok (.aload_n 0, 1) := by decide +kernel
theorem dX8_march_28 : decode cX8_march 28 = .ok (.getfield 10, 3) := by decide +kernel
theorem dX8_march_31 : decode cX8_march 31 = .ok (.iconst 0, 1) := by decide +kernel
theorem dX8_march_32 : decode cX8_march 32 = .ok (.putfield 75, 3) := by decide +kernel
theorem dX8_march_35 : decode cX8_march 35 = .ok (.aload_n 0, 1) := by decide +kernel
theorem dX8_march_36 : decode cX8_march 36 = .ok (.getfield 10, 3) := by decide +kernel
theorem dX8_march_39 : decode cX8_march 39 = .ok (.getfield 86, 3) := by decide +kernel
theorem dX8_march_42 : decode cX8_march 42 = .ok (.ifCond .eq 14, 3) := by decide +kernel
theorem dX8_march_45 : decode cX8_march 45 = .ok (.bipush (-2), 2) := by decide +kernel
theorem dX8_march_47 : decode cX8_march 47 = .ok (.aload_n 0, 1) := by decide +kernel
theorem dX8_march_48 : decode cX8_march 48 = .ok (.getfield 10, 3) := by decide +kernel
theorem dX8_march_51 : decode cX8_march 51 = .ok (.getfield 86, 3) := by decide +kernel
theorem dX8_march_54 : decode cX8_march 54 = .ok (.isub, 1) := by decide +kernel
theorem dX8_march_55 : decode cX8_march 55 = .ok (.ireturn, 1) := by decide +kernel
theorem dX8_march_56 : decode cX8_march 56 = .ok (.aload_n 0, 1) := by decide +kernel
theorem dX8_march_57 : decode cX8_march 57 = .ok (.getfield 28, 3) := by decide +kernel
theorem dX8_march_60 : decode cX8_march 60 = .ok (.aload_n 0, 1) := by decide +kernel
theorem dX8_march_61 : decode cX8_march 61 = .ok (.getfield 32, 3) := by decide +kernel
theorem dX8_march_64 : decode cX8_march 64 = .ok (.aload_n 1, 1) := by decide +kernel
theorem dX8_march_65 : decode cX8_march 65 = .ok (.aastore, 1) := by decide +kernel
theorem dX8_march_66 : decode cX8_march 66 = .ok (.aload_n 0, 1) := by decide +kernel
theorem dX8_march_67 : decode cX8_march 67 = .ok (.dup, 1) := by decide +kernel
theorem dX8_march_68 : decode cX8_march 68 = .ok (.getfield 32, 3) := by decide +kernel
theorem dX8_march_71 : decode cX8_march 71 = .ok (.iconst 1, 1) := by decide +kernel
theorem dX8_march_72 : decode cX8_march 72 = .ok (.iadd, 1) := by decide +kernel
theorem dX8_march_73 : decode cX8_march 73 = .ok (.putfield 32, 3) := by decide +kernel
theorem dX8_march_76 : decode cX8_march 76 = .ok (.aload_n 0, 1) := by decide +kernel
theorem dX8_march_77 : decode cX8_march 77 = .ok (.getfield 32, 3) := by decide +kernel
theorem dX8_march_80 : decode cX8_march 80 = .ok (.iconst 1, 1) := by decide +kernel
theorem dX8_march_81 : decode cX8_march 81 = .ok (.isub, 1) := by decide +kernel
theorem dX8_march_82 : decode cX8_march 82 = .ok (.ireturn, 1) := by decide +kernel
def fX8_march (sz : Nat) (g : PH) (a0 : Nat) : Option (Int32 × PH × Nat × Nat) :=
  okb (isO g a0 8) ((getI g a0 8 4).bind fun x1 =>
  (if x1 < (6 : Int32) then (bmp 1 9 ((fX2_init (sz + 1) (hup g sz (.inr (2, dfX2))) sz).bind fun q9 =>
  (bmp q9.2.2.1 q9.2.2.2 ((getR q9.2.1 a0 8 0).bind fun p15 =>
  ((fX2_scan q9.2.1 sz p15).bind fun q17 =>
  ((getR q17.2 a0 8 0).bind fun p19 =>
  ((putV q17.2 p19 6 1 (.int (0 : Int32))).bind fun g21 =>
  ((getR g21 a0 8 0).bind fun p23 =>
  ((getI g21 p23 6 3).bind fun x25 =>
  (if x25 = 0 then ((getR g21 a0 8 3).bind fun p28 =>
  ((getI g21 a0 8 4).bind fun x30 =>
  ((stQ g21 p28 5 2 x30 sz).bind fun g32 =>
  ((getI g32 a0 8 4).bind fun x34 =>
  ((putV g32 a0 8 4 (.int (x34 + (1 : Int32)))).bind fun g36 =>
  ((getI g36 a0 8 4).bind fun x38 =>
  (some ((x38 - (1 : Int32)), g36, 0, 0)))))))) else
  ((getR g21 a0 8 0).bind fun p40 =>
  ((getI g21 p40 6 3).bind fun x42 =>
  (some (((-2 : Int32) - x42), g21, 0, 0)))))))))))))) else
  (some ((-1 : Int32), g, 0, 0))))
theorem oX8_march {g : PH} {sz : Nat} {a0 : Nat} {q : (Int32 × PH × Nat × Nat)} (h : fX8_march sz g a0 = some q) : isO g a0 8 = true := by unfold fX8_march at h; exact (okb_some h).1
theorem hyX8_march : hMet yX8_march RX8 cX8_march 2 (some .int) 0 := ⟨wd_438, wd_436, wd_437, wd_1, rfl, by decide +kernel, by decide +kernel, by decide +kernel⟩
set_option maxHeartbeats 4000000 in
set_option maxRecDepth 100000 in
theorem mX8_march (l : Launch) (E : HE) (sz : Nat) {g g' : PH} {a0 : Nat} {r : Int32} {mc ms : Nat} (hf : fX8_march sz g a0 = some (r, g', mc, ms)) : hM l E yX8_march cX8_march 2 (some .int) 8 185 mc ms sz g [.ref a0] (some (.int r)) g' := by
  refine hM.of (by decide) (Nat.le_of_ble_eq_true rfl) (fun K hl C hin hsz => ?_)
  subst hl
  subst hsz
  have C : VC K E 2 cX8_march RX8 (some .int) := C
  unfold fX8_march at hf
  replace hf := okb_some hf
  obtain ⟨ho, hf⟩ := hf
  have hkS : K.2.2.2.1.heap.size = kS K := rfl
  have e1 : 0 + mc = mc := Nat.zero_add _
  have e2 : 0 + ms = ms := Nat.zero_add _
  have e3 : kS K = kS K + 0 := rfl
  refine V.start (L' := [(0, .ref a0)]) rfl ?_
  refine V.aload_n (pc := 0) C dX8_march_0 0 rfl ?_
  replace hf := ob_some hf
  obtain ⟨x1, h2, hf⟩ := hf
  refine V.getI (pc := 1) C kX8 (k := 4) (by decide) wd_192 h2 dX8_march_1 ?_
  refine V.bipush (pc := 4) C dX8_march_4 (v := (6 : Int32)) (by decide) ?_
  refine V.icmp_lt (pc := 6) (t := 11) C dX8_march_6 (by decide) (fun c3 => ?_) (fun c3 => ?_)
  · replace hf := ite_t c3 hf
    replace hf := bmp_some hf
    obtain ⟨b4, b5, hf, h6, h7⟩ := hf
    refine V.new (pc := 11) C kX2 (fs := dfX2) wd_51 wd_439 wd_14 dfX2_ok (by show _ ≤ mc; omega) (by show _ ≤ ms; omega) dX8_march_11 ?_
    refine V.dup (pc := 14) C dX8_march_14 rfl ?_
    replace hf := ob_some hf
    obtain ⟨q9, h10, hf⟩ := hf
    replace hf := bmp_some hf
    obtain ⟨b11, b12, hf, h13, h14⟩ := hf
    refine V.callIN (host := RX8) (pc := 15) C hyX2_init (by decide +kernel) (mX2_init (r := q9.1) (g' := q9.2.1) (mc := q9.2.2.1) (ms := q9.2.2.2) K.2.1 E (((kS K) + 1)) h10) rfl ⟨Nat.le_of_ble_eq_true rfl, Nat.le_of_ble_eq_true rfl⟩ (Nat.le_of_ble_eq_true rfl) dX8_march_15 ⟨by show _ ≤ mc; omega, by show _ ≤ ms; omega⟩ rfl ?_
    refine V.astore_nQ (pc := 18) (L' := [(1, .ref (kS K)), (0, .ref a0)]) C (x := some (kS K)) dX8_march_18 (by decide) rfl ?_
    refine V.aload_n (pc := 19) C dX8_march_19 0 rfl ?_
    refine V.aload_n (pc := 20) C dX8_march_20 1 rfl ?_
    replace hf := ob_some hf
    obtain ⟨p15, h16, hf⟩ := hf
    refine V.getR (pc := 21) C kX8 (k := 0) (by decide) wd_188 h16 dX8_march_21 ?_
    replace hf := ob_some hf
    obtain ⟨q17, h18, hf⟩ := hf
    refine V.callV0v (pc := 24) C hyX2_scan wd_479 (mX2_scan (r := q17.1) (g' := q17.2) K.2.1 E ((((kS K) + 1) + q9.2.2.1)) h18) rfl rfl rfl (oX2_scan h18) ⟨Nat.le_of_ble_eq_true rfl, Nat.le_of_ble_eq_true rfl⟩ (Nat.le_of_ble_eq_true rfl) dX8_march_24 ⟨by show _ ≤ mc; omega, by show _ ≤ ms; omega⟩ rfl ?_
    refine V.aload_n (pc := 27) C dX8_march_27 1 rfl ?_
    replace hf := ob_some hf
    obtain ⟨p19, h20, hf⟩ := hf
    refine V.getR (pc := 28) C kX8 (k := 0) (by decide) wd_188 h20 dX8_march_28 ?_
    refine V.iconst (pc := 31) C dX8_march_31 (v := (0 : Int32)) (by decide) ?_
    replace hf := ob_some hf
    obtain ⟨g21, h22, hf⟩ := hf
    refine V.putX (pc := 32) C kX6 (k := 1) (by decide) wd_35 rfl rfl rfl h22 dX8_march_32 ?_
    refine V.aload_n (pc := 35) C dX8_march_35 1 rfl ?_
    replace hf := ob_some hf
    obtain ⟨p23, h24, hf⟩ := hf
    refine V.getR (pc := 36) C kX8 (k := 0) (by decide) wd_188 h24 dX8_march_36 ?_
    replace hf := ob_some hf
    obtain ⟨x25, h26, hf⟩ := hf
    refine V.getI (pc := 39) C kX6 (k := 3) (by decide) wd_38 h26 dX8_march_39 ?_
    refine V.if_eq (pc := 42) (t := 56) C dX8_march_42 (by decide) (fun c27 => ?_) (fun c27 => ?_)
    · replace hf := ite_t c27 hf
      refine V.aload_n (pc := 56) C dX8_march_56 1 rfl ?_
      replace hf := ob_some hf
      obtain ⟨p28, h29, hf⟩ := hf
      refine V.getR (pc := 57) C kX8 (k := 3) (by decide) wd_191 h29 dX8_march_57 ?_
      refine V.aload_n (pc := 60) C dX8_march_60 1 rfl ?_
      replace hf := ob_some hf
      obtain ⟨x30, h31, hf⟩ := hf
      refine V.getI (pc := 61) C kX8 (k := 4) (by decide) wd_192 h31 dX8_march_61 ?_
      refine V.aload_n (pc := 64) C dX8_march_64 0 rfl ?_
      replace hf := ob_some hf
      obtain ⟨g32, h33, hf⟩ := hf
      refine V.aast5 (pc := 65) C h33 dX8_march_65 ?_
      refine V.aload_n (pc := 66) C dX8_march_66 1 rfl ?_
      refine V.dup (pc := 67) C dX8_march_67 rfl ?_
      replace hf := ob_some hf
      obtain ⟨x34, h35, hf⟩ := hf
      refine V.getI (pc := 68) C kX8 (k := 4) (by decide) wd_192 h35 dX8_march_68 ?_
      refine V.iconst (pc := 71) C dX8_march_71 (v := (1 : Int32)) (by decide) ?_
      refine V.iadd (pc := 72) C dX8_march_72 ?_
      replace hf := ob_some hf
      obtain ⟨g36, h37, hf⟩ := hf
      refine V.putX (pc := 73) C kX8 (k := 4) (by decide) wd_192 rfl rfl rfl h37 dX8_march_73 ?_
      refine V.aload_n (pc := 76) C dX8_march_76 1 rfl ?_
      replace hf := ob_some hf
      obtain ⟨x38, h39, hf⟩ := hf
      refine V.getI (pc := 77) C kX8 (k := 4) (by decide) wd_192 h39 dX8_march_77 ?_
      refine V.iconst (pc := 80) C dX8_march_80 (v := (1 : Int32)) (by decide) ?_
      refine V.isub (pc := 81) C dX8_march_81 ?_
      obtain ⟨f1, f2, f3, f4⟩ := fin4 hf
      clear hf
      subst f1
      subst f2
      refine V.cast (c := mc) (s := ms) (by omega) (by omega) ?_
      exact V.iret (pc := 82) C (by omega) dX8_march_82
    replace hf := ite_f c27 hf
    refine V.bipush (pc := 45) C dX8_march_45 (v := (-2 : Int32)) (by decide) ?_
    refine V.aload_n (pc := 47) C dX8_march_47 1 rfl ?_
    replace hf := ob_some hf
    obtain ⟨p40, h41, hf⟩ := hf
    refine V.getR (pc := 48) C kX8 (k := 0) (by decide) wd_188 h41 dX8_march_48 ?_
    replace hf := ob_some hf
    obtain ⟨x42, h43, hf⟩ := hf
    refine V.getI (pc := 51) C kX6 (k := 3) (by decide) wd_38 h43 dX8_march_51 ?_
    refine V.isub (pc := 54) C (x := (-2 : Int32)) (y := x42) dX8_march_54 ?_
    obtain ⟨f1, f2, f3, f4⟩ := fin4 hf
    clear hf
    subst f1
    subst f2
    refine V.cast (c := mc) (s := ms) (by omega) (by omega) ?_
    exact V.iret (pc := 55) C (by omega) dX8_march_55
  replace hf := ite_f c3 hf
  refine V.iconst (pc := 9) C dX8_march_9 (v := (-1 : Int32)) (by decide) ?_
  obtain ⟨f1, f2, f3, f4⟩ := fin4 hf
  clear hf
  subst f1
  subst f2
  refine V.cast (c := mc) (s := ms) (by omega) (by omega) ?_
  exact V.iret (pc := 10) C (by omega) dX8_march_10
theorem dX8_kindAt_0 : decode cX8_kindAt 0 = .ok (.iload_n 1, 1) := by decide +kernel
theorem dX8_kindAt_1 : decode cX8_kindAt 1 = .ok (.ifCond .lt 26, 3) := by decide +kernel
theorem dX8_kindAt_4 : decode cX8_kindAt 4 = .ok (.iload_n 1, 1) := by decide +kernel
theorem dX8_kindAt_5 : decode cX8_kindAt 5 = .ok (.aload_n 0, 1) := by decide +kernel
theorem dX8_kindAt_6 : decode cX8_kindAt 6 = .ok (.getfield 22, 3) := by decide +kernel
theorem dX8_kindAt_9 : decode cX8_kindAt 9 = .ok (.if_icmp .ge 18, 3) := by decide +kernel
theorem dX8_kindAt_12 : decode cX8_kindAt 12 = .ok (.iload_n 1, 1) := by decide +kernel
theorem dX8_kindAt_13 : decode cX8_kindAt 13 = .ok (.bipush 8, 2) := by decide +kernel
theorem dX8_kindAt_15 : decode cX8_kindAt 15 = .ok (.if_icmp .ge 12, 3) := by decide +kernel
theorem dX8_kindAt_18 : decode cX8_kindAt 18 = .ok (.aload_n 0, 1) := by decide +kernel
theorem dX8_kindAt_19 : decode cX8_kindAt 19 = .ok (.getfield 18, 3) := by decide +kernel
theorem dX8_kindAt_22 : decode cX8_kindAt 22 = .ok (.iload_n 1, 1) := by decide +kernel
theorem dX8_kindAt_23 : decode cX8_kindAt 23 = .ok (.aaload, 1) := by decide +kernel
theorem dX8_kindAt_24 : decode cX8_kindAt 24 = .ok (.goto 4, 3) := by decide +kernel
theorem dX8_kindAt_27 : decode cX8_kindAt 27 = .ok (.aconst_null, 1) := by decide +kernel
theorem dX8_kindAt_28 : decode cX8_kindAt 28 = .ok (.areturn, 1) := by decide +kernel
def fX8_kindAt (g : PH) (a0 : Nat) (a1 : Int32) : Option (Option Nat × PH) :=
  okb (isO g a0 8) (if a1 < 0 then (some (none, g)) else
  ((getI g a0 8 2).bind fun x2 =>
  (if x2 ≤ a1 then (some (none, g)) else
  (if (8 : Int32) ≤ a1 then (some (none, g)) else
  ((getR g a0 8 1).bind fun p6 =>
  ((ldQ g p6 4 a1).bind fun q8 =>
  (some (q8, g))))))))
theorem oX8_kindAt {g : PH} {a0 : Nat} {a1 : Int32} {q : (Option Nat × PH)} (h : fX8_kindAt g a0 a1 = some q) : isO g a0 8 = true := by unfold fX8_kindAt at h; exact (okb_some h).1
theorem hyX8_kindAt : hMet yX8_kindAt RX8 cX8_kindAt 2 (some (.object RX1)) 1 := ⟨wd_540, wd_539, ws_14, wd_1, rfl, by decide +kernel, by decide +kernel, by decide +kernel⟩
set_option maxHeartbeats 4000000 in
set_option maxRecDepth 100000 in
theorem mX8_kindAt (l : Launch) (E : HE) (sz : Nat) {g g' : PH} {a0 : Nat} {a1 : Int32} {r : Option Nat} (hf : fX8_kindAt g a0 a1 = some (r, g')) : hM l E yX8_kindAt cX8_kindAt 2 (some (.object RX1)) 0 0 0 0 sz g [.ref a0, .int a1] (some (va_rf r)) g' := by
  refine hM.of (by decide) (Nat.le_of_ble_eq_true rfl) (fun K hl C hin hsz => ?_)
  subst hl
  subst hsz
  have C : VC K E 2 cX8_kindAt RX8 (some (.object RX1)) := C
  unfold fX8_kindAt at hf
  replace hf := okb_some hf
  obtain ⟨ho, hf⟩ := hf
  refine V.start (L' := [(0, .ref a0), (1, .int a1)]) rfl ?_
  refine V.iload_n (pc := 0) C dX8_kindAt_0 1 rfl ?_
  refine V.if_lt (pc := 1) (t := 27) C dX8_kindAt_1 (by decide) (fun c1 => ?_) (fun c1 => ?_)
  · replace hf := ite_t c1 hf
    refine V.null (pc := 27) C dX8_kindAt_27 ?_
    obtain ⟨f1, f2⟩ := fin2 hf
    clear hf
    subst f1
    subst f2
    exact V.aret (pc := 28) (v := none) C rfl dX8_kindAt_28
  replace hf := ite_f c1 hf
  refine V.iload_n (pc := 4) C dX8_kindAt_4 1 rfl ?_
  refine V.aload_n (pc := 5) C dX8_kindAt_5 0 rfl ?_
  replace hf := ob_some hf
  obtain ⟨x2, h3, hf⟩ := hf
  refine V.getI (pc := 6) C kX8 (k := 2) (by decide) wd_190 h3 dX8_kindAt_6 ?_
  refine V.icmp_ge (pc := 9) (t := 27) C dX8_kindAt_9 (by decide) (fun c4 => ?_) (fun c4 => ?_)
  · replace hf := ite_t c4 hf
    refine V.null (pc := 27) C dX8_kindAt_27 ?_
    obtain ⟨f1, f2⟩ := fin2 hf
    clear hf
    subst f1
    subst f2
    exact V.aret (pc := 28) (v := none) C rfl dX8_kindAt_28
  replace hf := ite_f c4 hf
  refine V.iload_n (pc := 12) C dX8_kindAt_12 1 rfl ?_
  refine V.bipush (pc := 13) C dX8_kindAt_13 (v := (8 : Int32)) (by decide) ?_
  refine V.icmp_ge (pc := 15) (t := 27) C dX8_kindAt_15 (by decide) (fun c5 => ?_) (fun c5 => ?_)
  · replace hf := ite_t c5 hf
    refine V.null (pc := 27) C dX8_kindAt_27 ?_
    obtain ⟨f1, f2⟩ := fin2 hf
    clear hf
    subst f1
    subst f2
    exact V.aret (pc := 28) (v := none) C rfl dX8_kindAt_28
  replace hf := ite_f c5 hf
  refine V.aload_n (pc := 18) C dX8_kindAt_18 0 rfl ?_
  replace hf := ob_some hf
  obtain ⟨p6, h7, hf⟩ := hf
  refine V.getR (pc := 19) C kX8 (k := 1) (by decide) wd_189 h7 dX8_kindAt_19 ?_
  refine V.iload_n (pc := 22) C dX8_kindAt_22 1 rfl ?_
  replace hf := ob_some hf
  obtain ⟨q8, h9, hf⟩ := hf
  refine V.aald4 (pc := 23) C h9 dX8_kindAt_23 ?_
  refine V.goto (pc := 24) (t := 28) C dX8_kindAt_24 (by decide) ?_
  obtain ⟨f1, f2⟩ := fin2 hf
  clear hf
  subst f1
  subst f2
  exact V.aret (pc := 28) (v := q8) C rfl dX8_kindAt_28
theorem dX8_ofKind_0 : decode cX8_ofKind 0 = .ok (.aload_n 0, 1) := by decide +kernel
theorem dX8_ofKind_1 : decode cX8_ofKind 1 = .ok (.iload_n 1, 1) := by decide +kernel
theorem dX8_ofKind_2 : decode cX8_ofKind 2 = .ok (.invokevirtual 94, 3) := by decide +kernel
theorem dX8_ofKind_5 : decode cX8_ofKind 5 = .ok (.astore_n 3, 1) := by decide +kernel
theorem dX8_ofKind_6 : decode cX8_ofKind 6 = .ok (.aload_n 3, 1) := by decide +kernel
theorem dX8_ofKind_7 : decode cX8_ofKind 7 = .ok (.ifnonnull 5, 3) := by decide +kernel
theorem dX8_ofKind_10 : decode cX8_ofKind 10 = .ok (.iconst (-1), 1) := by decide +kernel
theorem dX8_ofKind_11 : decode cX8_ofKind 11 = .ok (.ireturn, 1) := by decide +kernel
theorem dX8_ofKind_12 : decode cX8_ofKind 12 = .ok (.iload_n 2, 1) := by decide +kernel
theorem dX8_ofKind_13 : decode cX8_ofKind 13 = .ok (.tableswitch 90 0 3 #[31, 36, 49, 61], 31) := by decide +kernel
theorem dX8_ofKind_44 : decode cX8_ofKind 44 = .ok (.aload_n 3, 1) := by decide +kernel
theorem dX8_ofKind_45 : decode cX8_ofKind 45 = .ok (.getfield 98, 3) := by decide +kernel
theorem dX8_ofKind_48 : decode cX8_ofKind 48 = .ok (.ireturn, 1) := by decide +kernel
theorem dX8_ofKind_49 : decode cX8_ofKind 49 = .ok (.aload_n 3, 1) := by decide +kernel
theorem dX8_ofKind_50 : decode cX8_ofKind 50 = .ok (.getfield 101, 3) := by decide +kernel
theorem dX8_ofKind_53 : decode cX8_ofKind 53 = .ok (.ifCond .eq 7, 3) := by decide +kernel
theorem dX8_ofKind_56 : decode cX8_ofKind 56 = .ok (.iconst 1, 1) := by decide +kernel
theorem dX8_ofKind_57 : decode cX8_ofKind 57 = .ok (.goto 4, 3) := by decide +kernel
theorem dX8_ofKind_60 : decode cX8_ofKind 60 = .ok (.iconst 0, 1) := by decide +kernel
theorem dX8_ofKind_61 : decode cX8_ofKind 61 = .ok (.ireturn, 1) := by decide +kernel
theorem dX8_ofKind_62 : decode cX8_ofKind 62 = .ok (.aload_n 3, 1) := by decide +kernel
theorem dX8_ofKind_63 : decode cX8_ofKind 63 = .ok (.aload_n 0, 1) := by decide +kernel
theorem dX8_ofKind_64 : decode cX8_ofKind 64 = .ok (.getfield 38, 3) := by decide +kernel
theorem dX8_ofKind_67 : decode cX8_ofKind 67 = .ok (.getfield 105, 3) := by decide +kernel
theorem dX8_ofKind_70 : decode cX8_ofKind 70 = .ok (.invokevirtual 108, 3) := by decide +kernel
theorem dX8_ofKind_73 : decode cX8_ofKind 73 = .ok (.ireturn, 1) := by decide +kernel
theorem dX8_ofKind_74 : decode cX8_ofKind 74 = .ok (.aload_n 3, 1) := by decide +kernel
theorem dX8_ofKind_75 : decode cX8_ofKind 75 = .ok (.getfield 101, 3) := by decide +kernel
theorem dX8_ofKind_78 : decode cX8_ofKind 78 = .ok (.ifCond .eq 17, 3) := by decide +kernel
theorem dX8_ofKind_81 : decode cX8_ofKind 81 = .ok (.iconst 2, 1) := by decide +kernel
theorem dX8_ofKind_82 : decode cX8_ofKind 82 = .ok (.aload_n 0, 1) := by decide +kernel
theorem dX8_ofKind_83 : decode cX8_ofKind 83 = .ok (.getfield 38, 3) := by decide +kernel
theorem dX8_ofKind_86 : decode cX8_ofKind 86 = .ok (.getfield 105, 3) := by decide +kernel
theorem dX8_ofKind_89 : decode cX8_ofKind 89 = .ok (.iconst 1, 1) := by decide +kernel
theorem dX8_ofKind_90 : decode cX8_ofKind 90 = .ok (.isub, 1) := by decide +kernel
theorem dX8_ofKind_91 : decode cX8_ofKind 91 = .ok (.imul, 1) := by decide +kernel
theorem dX8_ofKind_92 : decode cX8_ofKind 92 = .ok (.goto 10, 3) := by decide +kernel
theorem dX8_ofKind_95 : decode cX8_ofKind 95 = .ok (.aload_n 0, 1) := by decide +kernel
theorem dX8_ofKind_96 : decode cX8_ofKind 96 = .ok (.getfield 38, 3) := by decide +kernel
theorem dX8_ofKind_99 : decode cX8_ofKind 99 = .ok (.getfield 105, 3) := by decide +kernel
theorem dX8_ofKind_102 : decode cX8_ofKind 102 = .ok (.ireturn, 1) := by decide +kernel
theorem dX8_ofKind_103 : decode cX8_ofKind 103 = .ok (.iconst (-1), 1) := by decide +kernel
theorem dX8_ofKind_104 : decode cX8_ofKind 104 = .ok (.ireturn, 1) := by decide +kernel
def fX8_ofKind (g : PH) (a0 : Nat) (a1 : Int32) (a2 : Int32) : Option (Int32 × PH) :=
  okb (isO g a0 8) ((fX8_kindAt g a0 a1).bind fun (z2, g3) =>
  (z2.elim (some ((-1 : Int32), g3)) (fun p5 =>
  if a2 = 0 then ((getI g3 p5 1 0).bind fun x7 =>
  (some (x7, g3))) else
  (if a2 = 1 then ((getI g3 p5 1 1).bind fun x10 =>
  (if x10 = 0 then (some ((0 : Int32), g3)) else
  (some ((1 : Int32), g3)))) else
  (if a2 = 2 then ((getR g3 a0 8 5).bind fun p14 =>
  ((getI g3 p14 3 0).bind fun x16 =>
  ((fX1_placements g3 p5 x16).bind fun q18 =>
  (some (q18.1, q18.2))))) else
  (if a2 = 3 then ((getI g3 p5 1 1).bind fun x21 =>
  (if x21 = 0 then ((getR g3 a0 8 5).bind fun p24 =>
  ((getI g3 p24 3 0).bind fun x26 =>
  (some (x26, g3)))) else
  ((getR g3 a0 8 5).bind fun p28 =>
  ((getI g3 p28 3 0).bind fun x30 =>
  (some (((2 : Int32) * (x30 - (1 : Int32))), g3)))))) else
  (some ((-1 : Int32), g3))))))))
theorem oX8_ofKind {g : PH} {a0 : Nat} {a1 : Int32} {a2 : Int32} {q : (Int32 × PH)} (h : fX8_ofKind g a0 a1 a2 = some q) : isO g a0 8 = true := by unfold fX8_ofKind at h; exact (okb_some h).1
theorem hyX8_ofKind : hMet yX8_ofKind RX8 cX8_ofKind 4 (some .int) 2 := ⟨wd_536, wd_534, wd_535, wd_1, rfl, by decide +kernel, by decide +kernel, by decide +kernel⟩
set_option maxHeartbeats 4000000 in
set_option maxRecDepth 100000 in
theorem mX8_ofKind (l : Launch) (E : HE) (sz : Nat) {g g' : PH} {a0 : Nat} {a1 : Int32} {a2 : Int32} {r : Int32} (hf : fX8_ofKind g a0 a1 a2 = some (r, g')) : hM l E yX8_ofKind cX8_ofKind 4 (some .int) 1 21 0 0 sz g [.ref a0, .int a1, .int a2] (some (.int r)) g' := by
  refine hM.of (by decide) (Nat.le_of_ble_eq_true rfl) (fun K hl C hin hsz => ?_)
  subst hl
  subst hsz
  have C : VC K E 4 cX8_ofKind RX8 (some .int) := C
  unfold fX8_ofKind at hf
  replace hf := okb_some hf
  obtain ⟨ho, hf⟩ := hf
  refine V.start (L' := [(0, .ref a0), (1, .int a1), (2, .int a2)]) rfl ?_
  refine V.aload_n (pc := 0) C dX8_ofKind_0 0 rfl ?_
  refine V.iload_n (pc := 1) C dX8_ofKind_1 1 rfl ?_
  replace hf := ob_some hf
  obtain ⟨⟨z2, g3⟩, h4, hf⟩ := hf
  dsimp only at hf
  refine V.callV0q (pc := 2) C hyX8_kindAt wd_537 (mX8_kindAt (r := z2) (g' := g3) K.2.1 E (kS K) h4) rfl rfl rfl (oX8_kindAt h4) ⟨Nat.le_of_ble_eq_true rfl, Nat.le_of_ble_eq_true rfl⟩ (Nat.le_of_ble_eq_true rfl) dX8_ofKind_2 ⟨Nat.zero_le _, Nat.zero_le _⟩ rfl ?_
  refine V.astore_nQ (pc := 5) (L' := [(3, va_rf z2), (0, .ref a0), (1, .int a1), (2, .int a2)]) C (x := z2) dX8_ofKind_5 (by decide) rfl ?_
  refine V.aload_nQ (pc := 6) C dX8_ofKind_6 0 rfl ?_
  rcases z2 with _ | p5
  · refine V.ifnonnullN (pc := 7) C dX8_ofKind_7 ?_
    refine V.iconst (pc := 10) C dX8_ofKind_10 (v := (-1 : Int32)) (by decide) ?_
    obtain ⟨f1, f2⟩ := fin2 hf
    clear hf
    subst f1
    subst f2
    exact V.iret (pc := 11) C rfl dX8_ofKind_11
  refine V.ifnonnull (pc := 7) (t := 12) C dX8_ofKind_7 (by decide) ?_
  refine V.iload_n (pc := 12) C dX8_ofKind_12 3 rfl ?_
  by_cases c6 : a2 = 0
  · replace hf := ite_t c6 hf
    refine V.tsIn (pc := 13) (k := 0) (t := 44) C dX8_ofKind_13 c6 (by decide) (by decide) rfl (by decide) ?_
    refine V.aload_n (pc := 44) C dX8_ofKind_44 0 rfl ?_
    replace hf := ob_some hf
    obtain ⟨x7, h8, hf⟩ := hf
    refine V.getI (pc := 45) C kX1 (k := 0) (by decide) wd_247 h8 dX8_ofKind_45 ?_
    obtain ⟨f1, f2⟩ := fin2 hf
    clear hf
    subst f1
    subst f2
    exact V.iret (pc := 48) C rfl dX8_ofKind_48
  replace hf := ite_f c6 hf
  by_cases c9 : a2 = 1
  · replace hf := ite_t c9 hf
    refine V.tsIn (pc := 13) (k := 1) (t := 49) C dX8_ofKind_13 c9 (by decide) (by decide) rfl (by decide) ?_
    refine V.aload_n (pc := 49) C dX8_ofKind_49 0 rfl ?_
    replace hf := ob_some hf
    obtain ⟨x10, h11, hf⟩ := hf
    refine V.getI (pc := 50) C kX1 (k := 1) (by decide) wd_249 h11 dX8_ofKind_50 ?_
    refine V.if_eq (pc := 53) (t := 60) C dX8_ofKind_53 (by decide) (fun c12 => ?_) (fun c12 => ?_)
    · replace hf := ite_t c12 hf
      refine V.iconst (pc := 60) C dX8_ofKind_60 (v := (0 : Int32)) (by decide) ?_
      obtain ⟨f1, f2⟩ := fin2 hf
      clear hf
      subst f1
      subst f2
      exact V.iret (pc := 61) C rfl dX8_ofKind_61
    replace hf := ite_f c12 hf
    refine V.iconst (pc := 56) C dX8_ofKind_56 (v := (1 : Int32)) (by decide) ?_
    refine V.goto (pc := 57) (t := 61) C dX8_ofKind_57 (by decide) ?_
    obtain ⟨f1, f2⟩ := fin2 hf
    clear hf
    subst f1
    subst f2
    exact V.iret (pc := 61) C rfl dX8_ofKind_61
  replace hf := ite_f c9 hf
  by_cases c13 : a2 = 2
  · replace hf := ite_t c13 hf
    refine V.tsIn (pc := 13) (k := 2) (t := 62) C dX8_ofKind_13 c13 (by decide) (by decide) rfl (by decide) ?_
    refine V.aload_n (pc := 62) C dX8_ofKind_62 0 rfl ?_
    refine V.aload_n (pc := 63) C dX8_ofKind_63 1 rfl ?_
    replace hf := ob_some hf
    obtain ⟨p14, h15, hf⟩ := hf
    refine V.getR (pc := 64) C kX8 (k := 5) (by decide) wd_193 h15 dX8_ofKind_64 ?_
    replace hf := ob_some hf
    obtain ⟨x16, h17, hf⟩ := hf
    refine V.getI (pc := 67) C kX3 (k := 0) (by decide) wd_60 h17 dX8_ofKind_67 ?_
    replace hf := ob_some hf
    obtain ⟨q18, h19, hf⟩ := hf
    refine V.callV0i (pc := 70) C hyX1_placements wd_541 (mX1_placements (r := q18.1) (g' := q18.2) K.2.1 E (kS K) h19) rfl rfl rfl (oX1_placements h19) ⟨Nat.le_of_ble_eq_true rfl, Nat.le_of_ble_eq_true rfl⟩ (Nat.le_of_ble_eq_true rfl) dX8_ofKind_70 ⟨Nat.zero_le _, Nat.zero_le _⟩ rfl ?_
    obtain ⟨f1, f2⟩ := fin2 hf
    clear hf
    subst f1
    subst f2
    exact V.iret (pc := 73) C rfl dX8_ofKind_73
  replace hf := ite_f c13 hf
  by_cases c20 : a2 = 3
  · replace hf := ite_t c20 hf
    refine V.tsIn (pc := 13) (k := 3) (t := 74) C dX8_ofKind_13 c20 (by decide) (by decide) rfl (by decide) ?_
    refine V.aload_n (pc := 74) C dX8_ofKind_74 0 rfl ?_
    replace hf := ob_some hf
    obtain ⟨x21, h22, hf⟩ := hf
    refine V.getI (pc := 75) C kX1 (k := 1) (by decide) wd_249 h22 dX8_ofKind_75 ?_
    refine V.if_eq (pc := 78) (t := 95) C dX8_ofKind_78 (by decide) (fun c23 => ?_) (fun c23 => ?_)
    · replace hf := ite_t c23 hf
      refine V.aload_n (pc := 95) C dX8_ofKind_95 1 rfl ?_
      replace hf := ob_some hf
      obtain ⟨p24, h25, hf⟩ := hf
      refine V.getR (pc := 96) C kX8 (k := 5) (by decide) wd_193 h25 dX8_ofKind_96 ?_
      replace hf := ob_some hf
      obtain ⟨x26, h27, hf⟩ := hf
      refine V.getI (pc := 99) C kX3 (k := 0) (by decide) wd_60 h27 dX8_ofKind_99 ?_
      obtain ⟨f1, f2⟩ := fin2 hf
      clear hf
      subst f1
      subst f2
      exact V.iret (pc := 102) C rfl dX8_ofKind_102
    replace hf := ite_f c23 hf
    refine V.iconst (pc := 81) C dX8_ofKind_81 (v := (2 : Int32)) (by decide) ?_
    refine V.aload_n (pc := 82) C dX8_ofKind_82 1 rfl ?_
    replace hf := ob_some hf
    obtain ⟨p28, h29, hf⟩ := hf
    refine V.getR (pc := 83) C kX8 (k := 5) (by decide) wd_193 h29 dX8_ofKind_83 ?_
    replace hf := ob_some hf
    obtain ⟨x30, h31, hf⟩ := hf
    refine V.getI (pc := 86) C kX3 (k := 0) (by decide) wd_60 h31 dX8_ofKind_86 ?_
    refine V.iconst (pc := 89) C dX8_ofKind_89 (v := (1 : Int32)) (by decide) ?_
    refine V.isub (pc := 90) C dX8_ofKind_90 ?_
    refine V.imul (pc := 91) C dX8_ofKind_91 ?_
    refine V.goto (pc := 92) (t := 102) C dX8_ofKind_92 (by decide) ?_
    obtain ⟨f1, f2⟩ := fin2 hf
    clear hf
    subst f1
    subst f2
    exact V.iret (pc := 102) C rfl dX8_ofKind_102
  replace hf := ite_f c20 hf
  have c6 := lv_neT (a := 0) c6 (by decide)
  have c9 := lv_neT (a := 1) c9 (by decide)
  have c13 := lv_neT (a := 2) c13 (by decide)
  have c20 := lv_neT (a := 3) c20 (by decide)
  refine V.tsOut (pc := 13) (t := 103) C dX8_ofKind_13 (by omega) (by decide) ?_
  refine V.iconst (pc := 103) C dX8_ofKind_103 (v := (-1 : Int32)) (by decide) ?_
  obtain ⟨f1, f2⟩ := fin2 hf
  clear hf
  subst f1
  subst f2
  exact V.iret (pc := 104) C rfl dX8_ofKind_104
theorem dX8_marchAt_0 : decode cX8_marchAt 0 = .ok (.iload_n 1, 1) := by decide +kernel
theorem dX8_marchAt_1 : decode cX8_marchAt 1 = .ok (.ifCond .lt 26, 3) := by decide +kernel
theorem dX8_marchAt_4 : decode cX8_marchAt 4 = .ok (.iload_n 1, 1) := by decide +kernel
theorem dX8_marchAt_5 : decode cX8_marchAt 5 = .ok (.aload_n 0, 1) := by decide +kernel
theorem dX8_marchAt_6 : decode cX8_marchAt 6 = .ok (.getfield 32, 3) := by decide +kernel
theorem dX8_marchAt_9 : decode cX8_marchAt 9 = .ok (.if_icmp .ge 18, 3) := by decide +kernel
theorem dX8_marchAt_12 : decode cX8_marchAt 12 = .ok (.iload_n 1, 1) := by decide +kernel
theorem dX8_marchAt_13 : decode cX8_marchAt 13 = .ok (.bipush 6, 2) := by decide +kernel
theorem dX8_marchAt_15 : decode cX8_marchAt 15 = .ok (.if_icmp .ge 12, 3) := by decide +kernel
theorem dX8_marchAt_18 : decode cX8_marchAt 18 = .ok (.aload_n 0, 1) := by decide +kernel
theorem dX8_marchAt_19 : decode cX8_marchAt 19 = .ok (.getfield 28, 3) := by decide +kernel
theorem dX8_marchAt_22 : decode cX8_marchAt 22 = .ok (.iload_n 1, 1) := by decide +kernel
theorem dX8_marchAt_23 : decode cX8_marchAt 23 = .ok (.aaload, 1) := by decide +kernel
theorem dX8_marchAt_24 : decode cX8_marchAt 24 = .ok (.goto 4, 3) := by decide +kernel
theorem dX8_marchAt_27 : decode cX8_marchAt 27 = .ok (.aconst_null, 1) := by decide +kernel
theorem dX8_marchAt_28 : decode cX8_marchAt 28 = .ok (.areturn, 1) := by decide +kernel
def fX8_marchAt (g : PH) (a0 : Nat) (a1 : Int32) : Option (Option Nat × PH) :=
  okb (isO g a0 8) (if a1 < 0 then (some (none, g)) else
  ((getI g a0 8 4).bind fun x2 =>
  (if x2 ≤ a1 then (some (none, g)) else
  (if (6 : Int32) ≤ a1 then (some (none, g)) else
  ((getR g a0 8 3).bind fun p6 =>
  ((ldQ g p6 5 a1).bind fun q8 =>
  (some (q8, g))))))))
theorem oX8_marchAt {g : PH} {a0 : Nat} {a1 : Int32} {q : (Option Nat × PH)} (h : fX8_marchAt g a0 a1 = some q) : isO g a0 8 = true := by unfold fX8_marchAt at h; exact (okb_some h).1
theorem hyX8_marchAt : hMet yX8_marchAt RX8 cX8_marchAt 2 (some (.object RX2)) 1 := ⟨wd_552, wd_551, ws_15, wd_1, rfl, by decide +kernel, by decide +kernel, by decide +kernel⟩
set_option maxHeartbeats 4000000 in
set_option maxRecDepth 100000 in
theorem mX8_marchAt (l : Launch) (E : HE) (sz : Nat) {g g' : PH} {a0 : Nat} {a1 : Int32} {r : Option Nat} (hf : fX8_marchAt g a0 a1 = some (r, g')) : hM l E yX8_marchAt cX8_marchAt 2 (some (.object RX2)) 0 0 0 0 sz g [.ref a0, .int a1] (some (va_rf r)) g' := by
  refine hM.of (by decide) (Nat.le_of_ble_eq_true rfl) (fun K hl C hin hsz => ?_)
  subst hl
  subst hsz
  have C : VC K E 2 cX8_marchAt RX8 (some (.object RX2)) := C
  unfold fX8_marchAt at hf
  replace hf := okb_some hf
  obtain ⟨ho, hf⟩ := hf
  refine V.start (L' := [(0, .ref a0), (1, .int a1)]) rfl ?_
  refine V.iload_n (pc := 0) C dX8_marchAt_0 1 rfl ?_
  refine V.if_lt (pc := 1) (t := 27) C dX8_marchAt_1 (by decide) (fun c1 => ?_) (fun c1 => ?_)
  · replace hf := ite_t c1 hf
    refine V.null (pc := 27) C dX8_marchAt_27 ?_
    obtain ⟨f1, f2⟩ := fin2 hf
    clear hf
    subst f1
    subst f2
    exact V.aret (pc := 28) (v := none) C rfl dX8_marchAt_28
  replace hf := ite_f c1 hf
  refine V.iload_n (pc := 4) C dX8_marchAt_4 1 rfl ?_
  refine V.aload_n (pc := 5) C dX8_marchAt_5 0 rfl ?_
  replace hf := ob_some hf
  obtain ⟨x2, h3, hf⟩ := hf
  refine V.getI (pc := 6) C kX8 (k := 4) (by decide) wd_192 h3 dX8_marchAt_6 ?_
  refine V.icmp_ge (pc := 9) (t := 27) C dX8_marchAt_9 (by decide) (fun c4 => ?_) (fun c4 => ?_)
  · replace hf := ite_t c4 hf
    refine V.null (pc := 27) C dX8_marchAt_27 ?_
    obtain ⟨f1, f2⟩ := fin2 hf
    clear hf
    subst f1
    subst f2
    exact V.aret (pc := 28) (v := none) C rfl dX8_marchAt_28
  replace hf := ite_f c4 hf
  refine V.iload_n (pc := 12) C dX8_marchAt_12 1 rfl ?_
  refine V.bipush (pc := 13) C dX8_marchAt_13 (v := (6 : Int32)) (by decide) ?_
  refine V.icmp_ge (pc := 15) (t := 27) C dX8_marchAt_15 (by decide) (fun c5 => ?_) (fun c5 => ?_)
  · replace hf := ite_t c5 hf
    refine V.null (pc := 27) C dX8_marchAt_27 ?_
    obtain ⟨f1, f2⟩ := fin2 hf
    clear hf
    subst f1
    subst f2
    exact V.aret (pc := 28) (v := none) C rfl dX8_marchAt_28
  replace hf := ite_f c5 hf
  refine V.aload_n (pc := 18) C dX8_marchAt_18 0 rfl ?_
  replace hf := ob_some hf
  obtain ⟨p6, h7, hf⟩ := hf
  refine V.getR (pc := 19) C kX8 (k := 3) (by decide) wd_191 h7 dX8_marchAt_19 ?_
  refine V.iload_n (pc := 22) C dX8_marchAt_22 1 rfl ?_
  replace hf := ob_some hf
  obtain ⟨q8, h9, hf⟩ := hf
  refine V.aald5 (pc := 23) C h9 dX8_marchAt_23 ?_
  refine V.goto (pc := 24) (t := 28) C dX8_marchAt_24 (by decide) ?_
  obtain ⟨f1, f2⟩ := fin2 hf
  clear hf
  subst f1
  subst f2
  exact V.aret (pc := 28) (v := q8) C rfl dX8_marchAt_28
theorem dX8_ofMarch_0 : decode cX8_ofMarch 0 = .ok (.aload_n 0, 1) := by decide +kernel
theorem dX8_ofMarch_1 : decode cX8_ofMarch 1 = .ok (.iload_n 1, 1) := by decide +kernel
theorem dX8_ofMarch_2 : decode cX8_ofMarch 2 = .ok (.invokevirtual 112, 3) := by decide +kernel
theorem dX8_ofMarch_5 : decode cX8_ofMarch 5 = .ok (.astore_n 3, 1) := by decide +kernel
theorem dX8_ofMarch_6 : decode cX8_ofMarch 6 = .ok (.aload_n 3, 1) := by decide +kernel
theorem dX8_ofMarch_7 : decode cX8_ofMarch 7 = .ok (.ifnonnull 5, 3) := by decide +kernel
theorem dX8_ofMarch_10 : decode cX8_ofMarch 10 = .ok (.iconst (-1), 1) := by decide +kernel
theorem dX8_ofMarch_11 : decode cX8_ofMarch 11 = .ok (.ireturn, 1) := by decide +kernel
theorem dX8_ofMarch_12 : decode cX8_ofMarch 12 = .ok (.iload_n 2, 1) := by decide +kernel
theorem dX8_ofMarch_13 : decode cX8_ofMarch 13 = .ok (.tableswitch 60 0 4 #[35, 40, 45, 50, 55], 35) := by decide +kernel
theorem dX8_ofMarch_48 : decode cX8_ofMarch 48 = .ok (.aload_n 3, 1) := by decide +kernel
theorem dX8_ofMarch_49 : decode cX8_ofMarch 49 = .ok (.getfield 116, 3) := by decide +kernel
theorem dX8_ofMarch_52 : decode cX8_ofMarch 52 = .ok (.ireturn, 1) := by decide +kernel
theorem dX8_ofMarch_53 : decode cX8_ofMarch 53 = .ok (.aload_n 3, 1) := by decide +kernel
theorem dX8_ofMarch_54 : decode cX8_ofMarch 54 = .ok (.getfield 119, 3) := by decide +kernel
theorem dX8_ofMarch_57 : decode cX8_ofMarch 57 = .ok (.ireturn, 1) := by decide +kernel
theorem dX8_ofMarch_58 : decode cX8_ofMarch 58 = .ok (.aload_n 3, 1) := by decide +kernel
theorem dX8_ofMarch_59 : decode cX8_ofMarch 59 = .ok (.getfield 122, 3) := by decide +kernel
theorem dX8_ofMarch_62 : decode cX8_ofMarch 62 = .ok (.ireturn, 1) := by decide +kernel
theorem dX8_ofMarch_63 : decode cX8_ofMarch 63 = .ok (.aload_n 3, 1) := by decide +kernel
theorem dX8_ofMarch_64 : decode cX8_ofMarch 64 = .ok (.getfield 125, 3) := by decide +kernel
theorem dX8_ofMarch_67 : decode cX8_ofMarch 67 = .ok (.ireturn, 1) := by decide +kernel
theorem dX8_ofMarch_68 : decode cX8_ofMarch 68 = .ok (.aload_n 3, 1) := by decide +kernel
theorem dX8_ofMarch_69 : decode cX8_ofMarch 69 = .ok (.getfield 128, 3) := by decide +kernel
theorem dX8_ofMarch_72 : decode cX8_ofMarch 72 = .ok (.ireturn, 1) := by decide +kernel
theorem dX8_ofMarch_73 : decode cX8_ofMarch 73 = .ok (.iconst (-1), 1) := by decide +kernel
theorem dX8_ofMarch_74 : decode cX8_ofMarch 74 = .ok (.ireturn, 1) := by decide +kernel
def fX8_ofMarch (g : PH) (a0 : Nat) (a1 : Int32) (a2 : Int32) : Option (Int32 × PH) :=
  okb (isO g a0 8) ((fX8_marchAt g a0 a1).bind fun (z2, g3) =>
  (z2.elim (some ((-1 : Int32), g3)) (fun p5 =>
  if a2 = 0 then ((getI g3 p5 2 0).bind fun x7 =>
  (some (x7, g3))) else
  (if a2 = 1 then ((getI g3 p5 2 1).bind fun x10 =>
  (some (x10, g3))) else
  (if a2 = 2 then ((getI g3 p5 2 2).bind fun x13 =>
  (some (x13, g3))) else
  (if a2 = 3 then ((getI g3 p5 2 3).bind fun x16 =>
  (some (x16, g3))) else
  (if a2 = 4 then ((getI g3 p5 2 4).bind fun x19 =>
  (some (x19, g3))) else
  (some ((-1 : Int32), g3)))))))))
theorem oX8_ofMarch {g : PH} {a0 : Nat} {a1 : Int32} {a2 : Int32} {q : (Int32 × PH)} (h : fX8_ofMarch g a0 a1 a2 = some q) : isO g a0 8 = true := by unfold fX8_ofMarch at h; exact (okb_some h).1
theorem hyX8_ofMarch : hMet yX8_ofMarch RX8 cX8_ofMarch 4 (some .int) 2 := ⟨wd_548, wd_546, wd_547, wd_1, rfl, by decide +kernel, by decide +kernel, by decide +kernel⟩
set_option maxHeartbeats 4000000 in
set_option maxRecDepth 100000 in
theorem mX8_ofMarch (l : Launch) (E : HE) (sz : Nat) {g g' : PH} {a0 : Nat} {a1 : Int32} {a2 : Int32} {r : Int32} (hf : fX8_ofMarch g a0 a1 a2 = some (r, g')) : hM l E yX8_ofMarch cX8_ofMarch 4 (some .int) 1 21 0 0 sz g [.ref a0, .int a1, .int a2] (some (.int r)) g' := by
  refine hM.of (by decide) (Nat.le_of_ble_eq_true rfl) (fun K hl C hin hsz => ?_)
  subst hl
  subst hsz
  have C : VC K E 4 cX8_ofMarch RX8 (some .int) := C
  unfold fX8_ofMarch at hf
  replace hf := okb_some hf
  obtain ⟨ho, hf⟩ := hf
  refine V.start (L' := [(0, .ref a0), (1, .int a1), (2, .int a2)]) rfl ?_
  refine V.aload_n (pc := 0) C dX8_ofMarch_0 0 rfl ?_
  refine V.iload_n (pc := 1) C dX8_ofMarch_1 1 rfl ?_
  replace hf := ob_some hf
  obtain ⟨⟨z2, g3⟩, h4, hf⟩ := hf
  dsimp only at hf
  refine V.callV0q (pc := 2) C hyX8_marchAt wd_549 (mX8_marchAt (r := z2) (g' := g3) K.2.1 E (kS K) h4) rfl rfl rfl (oX8_marchAt h4) ⟨Nat.le_of_ble_eq_true rfl, Nat.le_of_ble_eq_true rfl⟩ (Nat.le_of_ble_eq_true rfl) dX8_ofMarch_2 ⟨Nat.zero_le _, Nat.zero_le _⟩ rfl ?_
  refine V.astore_nQ (pc := 5) (L' := [(3, va_rf z2), (0, .ref a0), (1, .int a1), (2, .int a2)]) C (x := z2) dX8_ofMarch_5 (by decide) rfl ?_
  refine V.aload_nQ (pc := 6) C dX8_ofMarch_6 0 rfl ?_
  rcases z2 with _ | p5
  · refine V.ifnonnullN (pc := 7) C dX8_ofMarch_7 ?_
    refine V.iconst (pc := 10) C dX8_ofMarch_10 (v := (-1 : Int32)) (by decide) ?_
    obtain ⟨f1, f2⟩ := fin2 hf
    clear hf
    subst f1
    subst f2
    exact V.iret (pc := 11) C rfl dX8_ofMarch_11
  refine V.ifnonnull (pc := 7) (t := 12) C dX8_ofMarch_7 (by decide) ?_
  refine V.iload_n (pc := 12) C dX8_ofMarch_12 3 rfl ?_
  by_cases c6 : a2 = 0
  · replace hf := ite_t c6 hf
    refine V.tsIn (pc := 13) (k := 0) (t := 48) C dX8_ofMarch_13 c6 (by decide) (by decide) rfl (by decide) ?_
    refine V.aload_n (pc := 48) C dX8_ofMarch_48 0 rfl ?_
    replace hf := ob_some hf
    obtain ⟨x7, h8, hf⟩ := hf
    refine V.getI (pc := 49) C kX2 (k := 0) (by decide) wd_446 h8 dX8_ofMarch_49 ?_
    obtain ⟨f1, f2⟩ := fin2 hf
    clear hf
    subst f1
    subst f2
    exact V.iret (pc := 52) C rfl dX8_ofMarch_52
  replace hf := ite_f c6 hf
  by_cases c9 : a2 = 1
  · replace hf := ite_t c9 hf
    refine V.tsIn (pc := 13) (k := 1) (t := 53) C dX8_ofMarch_13 c9 (by decide) (by decide) rfl (by decide) ?_
    refine V.aload_n (pc := 53) C dX8_ofMarch_53 0 rfl ?_
    replace hf := ob_some hf
    obtain ⟨x10, h11, hf⟩ := hf
    refine V.getI (pc := 54) C kX2 (k := 1) (by decide) wd_449 h11 dX8_ofMarch_54 ?_
    obtain ⟨f1, f2⟩ := fin2 hf
    clear hf
    subst f1
    subst f2
    exact V.iret (pc := 57) C rfl dX8_ofMarch_57
  replace hf := ite_f c9 hf
  by_cases c12 : a2 = 2
  · replace hf := ite_t c12 hf
    refine V.tsIn (pc := 13) (k := 2) (t := 58) C dX8_ofMarch_13 c12 (by decide) (by decide) rfl (by decide) ?_
    refine V.aload_n (pc := 58) C dX8_ofMarch_58 0 rfl ?_
    replace hf := ob_some hf
    obtain ⟨x13, h14, hf⟩ := hf
    refine V.getI (pc := 59) C kX2 (k := 2) (by decide) wd_451 h14 dX8_ofMarch_59 ?_
    obtain ⟨f1, f2⟩ := fin2 hf
    clear hf
    subst f1
    subst f2
    exact V.iret (pc := 62) C rfl dX8_ofMarch_62
  replace hf := ite_f c12 hf
  by_cases c15 : a2 = 3
  · replace hf := ite_t c15 hf
    refine V.tsIn (pc := 13) (k := 3) (t := 63) C dX8_ofMarch_13 c15 (by decide) (by decide) rfl (by decide) ?_
    refine V.aload_n (pc := 63) C dX8_ofMarch_63 0 rfl ?_
    replace hf := ob_some hf
    obtain ⟨x16, h17, hf⟩ := hf
    refine V.getI (pc := 64) C kX2 (k := 3) (by decide) wd_453 h17 dX8_ofMarch_64 ?_
    obtain ⟨f1, f2⟩ := fin2 hf
    clear hf
    subst f1
    subst f2
    exact V.iret (pc := 67) C rfl dX8_ofMarch_67
  replace hf := ite_f c15 hf
  by_cases c18 : a2 = 4
  · replace hf := ite_t c18 hf
    refine V.tsIn (pc := 13) (k := 4) (t := 68) C dX8_ofMarch_13 c18 (by decide) (by decide) rfl (by decide) ?_
    refine V.aload_n (pc := 68) C dX8_ofMarch_68 0 rfl ?_
    replace hf := ob_some hf
    obtain ⟨x19, h20, hf⟩ := hf
    refine V.getI (pc := 69) C kX2 (k := 4) (by decide) wd_455 h20 dX8_ofMarch_69 ?_
    obtain ⟨f1, f2⟩ := fin2 hf
    clear hf
    subst f1
    subst f2
    exact V.iret (pc := 72) C rfl dX8_ofMarch_72
  replace hf := ite_f c18 hf
  have c6 := lv_neT (a := 0) c6 (by decide)
  have c9 := lv_neT (a := 1) c9 (by decide)
  have c12 := lv_neT (a := 2) c12 (by decide)
  have c15 := lv_neT (a := 3) c15 (by decide)
  have c18 := lv_neT (a := 4) c18 (by decide)
  refine V.tsOut (pc := 13) (t := 73) C dX8_ofMarch_13 (by omega) (by decide) ?_
  refine V.iconst (pc := 73) C dX8_ofMarch_73 (v := (-1 : Int32)) (by decide) ?_
  obtain ⟨f1, f2⟩ := fin2 hf
  clear hf
  subst f1
  subst f2
  exact V.iret (pc := 74) C rfl dX8_ofMarch_74
theorem dX8_element_0 : decode cX8_element 0 = .ok (.aload_n 0, 1) := by decide +kernel
theorem dX8_element_1 : decode cX8_element 1 = .ok (.iload_n 1, 1) := by decide +kernel
theorem dX8_element_2 : decode cX8_element 2 = .ok (.invokevirtual 112, 3) := by decide +kernel
theorem dX8_element_5 : decode cX8_element 5 = .ok (.astore 4, 2) := by decide +kernel
theorem dX8_element_7 : decode cX8_element 7 = .ok (.aload 4, 2) := by decide +kernel
theorem dX8_element_9 : decode cX8_element 9 = .ok (.ifnull 16, 3) := by decide +kernel
theorem dX8_element_12 : decode cX8_element 12 = .ok (.iload_n 2, 1) := by decide +kernel
theorem dX8_element_13 : decode cX8_element 13 = .ok (.ifCond .lt 12, 3) := by decide +kernel
theorem dX8_element_16 : decode cX8_element 16 = .ok (.iload_n 2, 1) := by decide +kernel
theorem dX8_element_17 : decode cX8_element 17 = .ok (.aload 4, 2) := by decide +kernel
theorem dX8_element_19 : decode cX8_element 19 = .ok (.getfield 116, 3) := by decide +kernel
theorem dX8_element_22 : decode cX8_element 22 = .ok (.if_icmp .lt 5, 3) := by decide +kernel
theorem dX8_element_25 : decode cX8_element 25 = .ok (.iconst (-1), 1) := by decide +kernel
theorem dX8_element_26 : decode cX8_element 26 = .ok (.ireturn, 1) := by decide +kernel
theorem dX8_element_27 : decode cX8_element 27 = .ok (.iload_n 3, 1) := by decide +kernel
theorem dX8_element_28 : decode cX8_element 28 = .ok (.ifCond .ne 14, 3) := by decide +kernel
theorem dX8_element_31 : decode cX8_element 31 = .ok (.aload 4, 2) := by decide +kernel
theorem dX8_element_33 : decode cX8_element 33 = .ok (.iload_n 2, 1) := by decide +kernel
theorem dX8_element_34 : decode cX8_element 34 = .ok (.invokevirtual 131, 3) := by decide +kernel
theorem dX8_element_37 : decode cX8_element 37 = .ok (.iconst 2, 1) := by decide +kernel
theorem dX8_element_38 : decode cX8_element 38 = .ok (.invokestatic 134, 3) := by decide +kernel
theorem dX8_element_41 : decode cX8_element 41 = .ok (.ireturn, 1) := by decide +kernel
theorem dX8_element_42 : decode cX8_element 42 = .ok (.iload_n 3, 1) := by decide +kernel
theorem dX8_element_43 : decode cX8_element 43 = .ok (.iconst 1, 1) := by decide +kernel
theorem dX8_element_44 : decode cX8_element 44 = .ok (.if_icmp .ne 10, 3) := by decide +kernel
theorem dX8_element_47 : decode cX8_element 47 = .ok (.aload 4, 2) := by decide +kernel
theorem dX8_element_49 : decode cX8_element 49 = .ok (.iload_n 2, 1) := by decide +kernel
theorem dX8_element_50 : decode cX8_element 50 = .ok (.invokevirtual 140, 3) := by decide +kernel
theorem dX8_element_53 : decode cX8_element 53 = .ok (.ireturn, 1) := by decide +kernel
theorem dX8_element_54 : decode cX8_element 54 = .ok (.iload_n 3, 1) := by decide +kernel
theorem dX8_element_55 : decode cX8_element 55 = .ok (.iconst 2, 1) := by decide +kernel
theorem dX8_element_56 : decode cX8_element 56 = .ok (.if_icmp .lt 15, 3) := by decide +kernel
theorem dX8_element_59 : decode cX8_element 59 = .ok (.iload_n 3, 1) := by decide +kernel
theorem dX8_element_60 : decode cX8_element 60 = .ok (.iconst 2, 1) := by decide +kernel
theorem dX8_element_61 : decode cX8_element 61 = .ok (.aload 4, 2) := by decide +kernel
theorem dX8_element_63 : decode cX8_element 63 = .ok (.iload_n 2, 1) := by decide +kernel
theorem dX8_element_64 : decode cX8_element 64 = .ok (.invokevirtual 140, 3) := by decide +kernel
theorem dX8_element_67 : decode cX8_element 67 = .ok (.iadd, 1) := by decide +kernel
theorem dX8_element_68 : decode cX8_element 68 = .ok (.if_icmp .lt 5, 3) := by decide +kernel
theorem dX8_element_71 : decode cX8_element 71 = .ok (.iconst (-1), 1) := by decide +kernel
theorem dX8_element_72 : decode cX8_element 72 = .ok (.ireturn, 1) := by decide +kernel
theorem dX8_element_73 : decode cX8_element 73 = .ok (.aload 4, 2) := by decide +kernel
theorem dX8_element_75 : decode cX8_element 75 = .ok (.iload_n 2, 1) := by decide +kernel
theorem dX8_element_76 : decode cX8_element 76 = .ok (.iload_n 3, 1) := by decide +kernel
theorem dX8_element_77 : decode cX8_element 77 = .ok (.iconst 2, 1) := by decide +kernel
theorem dX8_element_78 : decode cX8_element 78 = .ok (.isub, 1) := by decide +kernel
theorem dX8_element_79 : decode cX8_element 79 = .ok (.invokevirtual 143, 3) := by decide +kernel
theorem dX8_element_82 : decode cX8_element 82 = .ok (.ireturn, 1) := by decide +kernel
def fX8_element (g : PH) (a0 : Nat) (a1 : Int32) (a2 : Int32) (a3 : Int32) : Option (Int32 × PH) :=
  okb (isO g a0 8) ((fX8_marchAt g a0 a1).bind fun (z2, g3) =>
  (z2.elim (some ((-1 : Int32), g3)) (fun p5 =>
  if a2 < 0 then (some ((-1 : Int32), g3)) else
  ((getI g3 p5 2 0).bind fun x7 =>
  (if a2 < x7 then (if a3 = 0 then ((fX2_wayOf g3 p5 a2).bind fun q20 =>
  (some ((if (2 : Int32) < q20.1 then (2 : Int32) else q20.1), q20.2))) else
  (if a3 = (1 : Int32) then ((fX2_opsOf g3 p5 a2).bind fun q18 =>
  (some (q18.1, q18.2))) else
  (if a3 < (2 : Int32) then (some ((-1 : Int32), g3)) else
  ((fX2_opsOf g3 p5 a2).bind fun q13 =>
  (if a3 < ((2 : Int32) + q13.1) then ((fX2_opAt q13.2 p5 a2 (a3 - (2 : Int32))).bind fun q16 =>
  (some (q16.1, q16.2))) else
  (some ((-1 : Int32), q13.2))))))) else
  (some ((-1 : Int32), g3)))))))
theorem oX8_element {g : PH} {a0 : Nat} {a1 : Int32} {a2 : Int32} {a3 : Int32} {q : (Int32 × PH)} (h : fX8_element g a0 a1 a2 a3 = some q) : isO g a0 8 = true := by unfold fX8_element at h; exact (okb_some h).1
theorem hyX8_element : hMet yX8_element RX8 cX8_element 5 (some .int) 3 := ⟨wd_556, wd_554, wd_555, wd_1, rfl, by decide +kernel, by decide +kernel, by decide +kernel⟩
set_option maxHeartbeats 4000000 in
set_option maxRecDepth 100000 in
theorem mX8_element (l : Launch) (E : HE) (sz : Nat) {g g' : PH} {a0 : Nat} {a1 : Int32} {a2 : Int32} {a3 : Int32} {r : Int32} (hf : fX8_element g a0 a1 a2 a3 = some (r, g')) : hM l E yX8_element cX8_element 5 (some .int) 1 23 0 0 sz g [.ref a0, .int a1, .int a2, .int a3] (some (.int r)) g' := by
  refine hM.of (by decide) (Nat.le_of_ble_eq_true rfl) (fun K hl C hin hsz => ?_)
  subst hl
  subst hsz
  have C : VC K E 5 cX8_element RX8 (some .int) := C
  unfold fX8_element at hf
  replace hf := okb_some hf
  obtain ⟨ho, hf⟩ := hf
  refine V.start (L' := [(0, .ref a0), (1, .int a1), (2, .int a2), (3, .int a3)]) rfl ?_
  refine V.aload_n (pc := 0) C dX8_element_0 0 rfl ?_
  refine V.iload_n (pc := 1) C dX8_element_1 1 rfl ?_
  replace hf := ob_some hf
  obtain ⟨⟨z2, g3⟩, h4, hf⟩ := hf
  dsimp only at hf
  refine V.callV0q (pc := 2) C hyX8_marchAt wd_549 (mX8_marchAt (r := z2) (g' := g3) K.2.1 E (kS K) h4) rfl rfl rfl (oX8_marchAt h4) ⟨Nat.le_of_ble_eq_true rfl, Nat.le_of_ble_eq_true rfl⟩ (Nat.le_of_ble_eq_true rfl) dX8_element_2 ⟨Nat.zero_le _, Nat.zero_le _⟩ rfl ?_
  refine V.astoreQ (pc := 5) (L' := [(4, va_rf z2), (0, .ref a0), (1, .int a1), (2, .int a2), (3, .int a3)]) C (x := z2) dX8_element_5 (by decide) rfl ?_
  refine V.aloadQ (pc := 7) C dX8_element_7 0 rfl ?_
  rcases z2 with _ | p5
  · refine V.ifnullN (pc := 9) (t := 25) C dX8_element_9 (by decide) ?_
    refine V.iconst (pc := 25) C dX8_element_25 (v := (-1 : Int32)) (by decide) ?_
    obtain ⟨f1, f2⟩ := fin2 hf
    clear hf
    subst f1
    subst f2
    exact V.iret (pc := 26) C rfl dX8_element_26
  refine V.ifnull (pc := 9) C dX8_element_9 ?_
  refine V.iload_n (pc := 12) C dX8_element_12 3 rfl ?_
  refine V.if_lt (pc := 13) (t := 25) C dX8_element_13 (by decide) (fun c6 => ?_) (fun c6 => ?_)
  · replace hf := ite_t c6 hf
    refine V.iconst (pc := 25) C dX8_element_25 (v := (-1 : Int32)) (by decide) ?_
    obtain ⟨f1, f2⟩ := fin2 hf
    clear hf
    subst f1
    subst f2
    exact V.iret (pc := 26) C rfl dX8_element_26
  replace hf := ite_f c6 hf
  refine V.iload_n (pc := 16) C dX8_element_16 3 rfl ?_
  refine V.aload (pc := 17) C dX8_element_17 0 rfl ?_
  replace hf := ob_some hf
  obtain ⟨x7, h8, hf⟩ := hf
  refine V.getI (pc := 19) C kX2 (k := 0) (by decide) wd_446 h8 dX8_element_19 ?_
  refine V.icmp_lt (pc := 22) (t := 27) C dX8_element_22 (by decide) (fun c9 => ?_) (fun c9 => ?_)
  · replace hf := ite_t c9 hf
    refine V.iload_n (pc := 27) C dX8_element_27 4 rfl ?_
    refine V.if_ne (pc := 28) (t := 42) C dX8_element_28 (by decide) (fun c10 => ?_) (fun c10 => ?_)
    · replace hf := ite_f c10 hf
      refine V.iload_n (pc := 42) C dX8_element_42 4 rfl ?_
      refine V.iconst (pc := 43) C dX8_element_43 (v := (1 : Int32)) (by decide) ?_
      refine V.icmp_ne (pc := 44) (t := 54) C dX8_element_44 (by decide) (fun c11 => ?_) (fun c11 => ?_)
      · replace hf := ite_f c11 hf
        refine V.iload_n (pc := 54) C dX8_element_54 4 rfl ?_
        refine V.iconst (pc := 55) C dX8_element_55 (v := (2 : Int32)) (by decide) ?_
        refine V.icmp_lt (pc := 56) (t := 71) C dX8_element_56 (by decide) (fun c12 => ?_) (fun c12 => ?_)
        · replace hf := ite_t c12 hf
          refine V.iconst (pc := 71) C dX8_element_71 (v := (-1 : Int32)) (by decide) ?_
          obtain ⟨f1, f2⟩ := fin2 hf
          clear hf
          subst f1
          subst f2
          exact V.iret (pc := 72) C rfl dX8_element_72
        replace hf := ite_f c12 hf
        refine V.iload_n (pc := 59) C dX8_element_59 4 rfl ?_
        refine V.iconst (pc := 60) C dX8_element_60 (v := (2 : Int32)) (by decide) ?_
        refine V.aload (pc := 61) C dX8_element_61 0 rfl ?_
        refine V.iload_n (pc := 63) C dX8_element_63 3 rfl ?_
        replace hf := ob_some hf
        obtain ⟨q13, h14, hf⟩ := hf
        refine V.callV0i (pc := 64) C hyX2_opsOf wd_562 (mX2_opsOf (r := q13.1) (g' := q13.2) K.2.1 E (kS K) h14) rfl rfl rfl (oX2_opsOf h14) ⟨Nat.le_of_ble_eq_true rfl, Nat.le_of_ble_eq_true rfl⟩ (Nat.le_of_ble_eq_true rfl) dX8_element_64 ⟨Nat.zero_le _, Nat.zero_le _⟩ rfl ?_
        refine V.iadd (pc := 67) C dX8_element_67 ?_
        refine V.icmp_lt (pc := 68) (t := 73) C dX8_element_68 (by decide) (fun c15 => ?_) (fun c15 => ?_)
        · replace hf := ite_t c15 hf
          refine V.aload (pc := 73) C dX8_element_73 0 rfl ?_
          refine V.iload_n (pc := 75) C dX8_element_75 3 rfl ?_
          refine V.iload_n (pc := 76) C dX8_element_76 4 rfl ?_
          refine V.iconst (pc := 77) C dX8_element_77 (v := (2 : Int32)) (by decide) ?_
          refine V.isub (pc := 78) C dX8_element_78 ?_
          replace hf := ob_some hf
          obtain ⟨q16, h17, hf⟩ := hf
          refine V.callV0i (pc := 79) C hyX2_opAt wd_566 (mX2_opAt (r := q16.1) (g' := q16.2) K.2.1 E (kS K) h17) rfl rfl rfl (oX2_opAt h17) ⟨Nat.le_of_ble_eq_true rfl, Nat.le_of_ble_eq_true rfl⟩ (Nat.le_of_ble_eq_true rfl) dX8_element_79 ⟨Nat.zero_le _, Nat.zero_le _⟩ rfl ?_
          obtain ⟨f1, f2⟩ := fin2 hf
          clear hf
          subst f1
          subst f2
          exact V.iret (pc := 82) C rfl dX8_element_82
        replace hf := ite_f c15 hf
        refine V.iconst (pc := 71) C dX8_element_71 (v := (-1 : Int32)) (by decide) ?_
        obtain ⟨f1, f2⟩ := fin2 hf
        clear hf
        subst f1
        subst f2
        exact V.iret (pc := 72) C rfl dX8_element_72
      replace hf := ite_t c11 hf
      refine V.aload (pc := 47) C dX8_element_47 0 rfl ?_
      refine V.iload_n (pc := 49) C dX8_element_49 3 rfl ?_
      replace hf := ob_some hf
      obtain ⟨q18, h19, hf⟩ := hf
      refine V.callV0i (pc := 50) C hyX2_opsOf wd_562 (mX2_opsOf (r := q18.1) (g' := q18.2) K.2.1 E (kS K) h19) rfl rfl rfl (oX2_opsOf h19) ⟨Nat.le_of_ble_eq_true rfl, Nat.le_of_ble_eq_true rfl⟩ (Nat.le_of_ble_eq_true rfl) dX8_element_50 ⟨Nat.zero_le _, Nat.zero_le _⟩ rfl ?_
      obtain ⟨f1, f2⟩ := fin2 hf
      clear hf
      subst f1
      subst f2
      exact V.iret (pc := 53) C rfl dX8_element_53
    replace hf := ite_t c10 hf
    refine V.aload (pc := 31) C dX8_element_31 0 rfl ?_
    refine V.iload_n (pc := 33) C dX8_element_33 3 rfl ?_
    replace hf := ob_some hf
    obtain ⟨q20, h21, hf⟩ := hf
    refine V.callV0i (pc := 34) C hyX2_wayOf wd_557 (mX2_wayOf (r := q20.1) (g' := q20.2) K.2.1 E (kS K) h21) rfl rfl rfl (oX2_wayOf h21) ⟨Nat.le_of_ble_eq_true rfl, Nat.le_of_ble_eq_true rfl⟩ (Nat.le_of_ble_eq_true rfl) dX8_element_34 ⟨Nat.zero_le _, Nat.zero_le _⟩ rfl ?_
    refine V.iconst (pc := 37) C dX8_element_37 (v := (2 : Int32)) (by decide) ?_
    refine V.mmin (pc := 38) C wd_561 wd_160 wd_6 wd_161 ⟨Nat.le_of_ble_eq_true rfl, Nat.le_of_ble_eq_true rfl⟩ (Nat.le_of_ble_eq_true rfl) ⟨Nat.zero_le _, Nat.zero_le _⟩ dX8_element_38 ?_
    obtain ⟨f1, f2⟩ := fin2 hf
    clear hf
    subst f1
    subst f2
    exact V.iret (pc := 41) C rfl dX8_element_41
  replace hf := ite_f c9 hf
  refine V.iconst (pc := 25) C dX8_element_25 (v := (-1 : Int32)) (by decide) ?_
  obtain ⟨f1, f2⟩ := fin2 hf
  clear hf
  subst f1
  subst f2
  exact V.iret (pc := 26) C rfl dX8_element_26
theorem dX8_firstBlindChoice_0 : decode cX8_firstBlindChoice 0 = .ok (.iconst 0, 1) := by decide +kernel
theorem dX8_firstBlindChoice_1 : decode cX8_firstBlindChoice 1 = .ok (.istore 4, 2) := by decide +kernel
theorem dX8_firstBlindChoice_3 : decode cX8_firstBlindChoice 3 = .ok (.iload 4, 2) := by decide +kernel
theorem dX8_firstBlindChoice_5 : decode cX8_firstBlindChoice 5 = .ok (.aload_n 2, 1) := by decide +kernel
theorem dX8_firstBlindChoice_6 : decode cX8_firstBlindChoice 6 = .ok (.invokevirtual 304, 3) := by decide +kernel
theorem dX8_firstBlindChoice_9 : decode cX8_firstBlindChoice 9 = .ok (.if_icmp .ge 27, 3) := by decide +kernel
theorem dX8_firstBlindChoice_12 : decode cX8_firstBlindChoice 12 = .ok (.aload_n 0, 1) := by decide +kernel
theorem dX8_firstBlindChoice_13 : decode cX8_firstBlindChoice 13 = .ok (.getfield 52, 3) := by decide +kernel
theorem dX8_firstBlindChoice_16 : decode cX8_firstBlindChoice 16 = .ok (.aload_n 1, 1) := by decide +kernel
theorem dX8_firstBlindChoice_17 : decode cX8_firstBlindChoice 17 = .ok (.aload_n 2, 1) := by decide +kernel
theorem dX8_firstBlindChoice_18 : decode cX8_firstBlindChoice 18 = .ok (.iload_n 3, 1) := by decide +kernel
theorem dX8_firstBlindChoice_19 : decode cX8_firstBlindChoice 19 = .ok (.iload 4, 2) := by decide +kernel
theorem dX8_firstBlindChoice_21 : decode cX8_firstBlindChoice 21 = .ok (.invokevirtual 272, 3) := by decide +kernel
theorem dX8_firstBlindChoice_24 : decode cX8_firstBlindChoice 24 = .ok (.ifCond .ne 6, 3) := by decide +kernel
theorem dX8_firstBlindChoice_27 : decode cX8_firstBlindChoice 27 = .ok (.iload 4, 2) := by decide +kernel
theorem dX8_firstBlindChoice_29 : decode cX8_firstBlindChoice 29 = .ok (.ireturn, 1) := by decide +kernel
theorem dX8_firstBlindChoice_30 : decode cX8_firstBlindChoice 30 = .ok (.iinc 4 1, 3) := by decide +kernel
theorem dX8_firstBlindChoice_33 : decode cX8_firstBlindChoice 33 = .ok (.goto (-30), 3) := by decide +kernel
theorem dX8_firstBlindChoice_36 : decode cX8_firstBlindChoice 36 = .ok (.iconst (-1), 1) := by decide +kernel
theorem dX8_firstBlindChoice_37 : decode cX8_firstBlindChoice 37 = .ok (.ireturn, 1) := by decide +kernel
def fX8_firstBlindChoice_3  : Nat → PH → Nat → Nat → Nat → Int32 → Int32 → Option (Int32 × PH)
  | 0, _, _, _, _, _, _ => none
  | n + 1, g, v0, v1, v2, v3, v4 =>
  (fX2_choices g v2).bind fun q1 =>
  (if q1.1 ≤ v4 then (some ((-1 : Int32), q1.2)) else
  ((getR q1.2 v0 8 7).bind fun p4 =>
  ((fX7_go q1.2 p4 v1 v2 v3 v4).bind fun q6 =>
  (if q6.1 = 0 then (some (v4, q6.2)) else
  (fX8_firstBlindChoice_3 n q6.2 v0 v1 v2 v3 (v4 + (1 : Int32)))))))
set_option maxHeartbeats 4000000 in
set_option maxRecDepth 100000 in
theorem bX8_firstBlindChoice_3 {K : HK} {E : HE} {r : Int32} {g' : PH}  (C : VC K E 5 cX8_firstBlindChoice RX8 (some .int))  : ∀ (n : Nat) (g : PH) (v0 : Nat) (v1 : Nat) (v2 : Nat) (v3 : Int32) (v4 : Int32), fX8_firstBlindChoice_3  n g v0 v1 v2 v3 v4 = some (r, g') → V K E (hRm 3 83 0 0) 5 (hZ K E (some (.int r)) g' 0 0) 0 0 (kS K) g 3 [(0, .ref v0), (1, .ref v1), (2, .ref v2), (3, .int v3), (4, .int v4)] [] := by
  intro n
  induction n with
  | zero =>
    intro g v0 v1 v2 v3 v4 hf
    rw [fX8_firstBlindChoice_3] at hf
    cases hf
  | succ n ih =>
    intro g v0 v1 v2 v3 v4 hf
    rw [fX8_firstBlindChoice_3] at hf
    refine V.iload (pc := 3) C dX8_firstBlindChoice_3 4 rfl ?_
    refine V.aload_n (pc := 5) C dX8_firstBlindChoice_5 2 rfl ?_
    replace hf := ob_some hf
    obtain ⟨q1, h2, hf⟩ := hf
    refine V.callV0i (pc := 6) C hyX2_choices wd_590 (mX2_choices (r := q1.1) (g' := q1.2) K.2.1 E (kS K) h2) rfl rfl rfl (oX2_choices h2) ⟨Nat.le_of_ble_eq_true rfl, Nat.le_of_ble_eq_true rfl⟩ (Nat.le_of_ble_eq_true rfl) dX8_firstBlindChoice_6 ⟨Nat.zero_le _, Nat.zero_le _⟩ rfl ?_
    refine V.icmp_ge (pc := 9) (t := 36) C dX8_firstBlindChoice_9 (by decide) (fun c3 => ?_) (fun c3 => ?_)
    · replace hf := ite_t c3 hf
      refine V.iconst (pc := 36) C dX8_firstBlindChoice_36 (v := (-1 : Int32)) (by decide) ?_
      obtain ⟨f1, f2⟩ := fin2 hf
      clear hf
      subst f1
      subst f2
      exact V.iret (pc := 37) C rfl dX8_firstBlindChoice_37
    replace hf := ite_f c3 hf
    refine V.aload_n (pc := 12) C dX8_firstBlindChoice_12 0 rfl ?_
    replace hf := ob_some hf
    obtain ⟨p4, h5, hf⟩ := hf
    refine V.getR (pc := 13) C kX8 (k := 7) (by decide) wd_195 h5 dX8_firstBlindChoice_13 ?_
    refine V.aload_n (pc := 16) C dX8_firstBlindChoice_16 1 rfl ?_
    refine V.aload_n (pc := 17) C dX8_firstBlindChoice_17 2 rfl ?_
    refine V.iload_n (pc := 18) C dX8_firstBlindChoice_18 3 rfl ?_
    refine V.iload (pc := 19) C dX8_firstBlindChoice_19 4 rfl ?_
    replace hf := ob_some hf
    obtain ⟨q6, h7, hf⟩ := hf
    refine V.callV0i (pc := 21) C hyX7_go wd_594 (mX7_go (r := q6.1) (g' := q6.2) K.2.1 E (kS K) h7) rfl rfl rfl (oX7_go h7) ⟨Nat.le_of_ble_eq_true rfl, Nat.le_of_ble_eq_true rfl⟩ (Nat.le_of_ble_eq_true rfl) dX8_firstBlindChoice_21 ⟨Nat.zero_le _, Nat.zero_le _⟩ rfl ?_
    refine V.if_ne (pc := 24) (t := 30) C dX8_firstBlindChoice_24 (by decide) (fun c8 => ?_) (fun c8 => ?_)
    · replace hf := ite_f c8 hf
      refine V.iinc (pc := 30) (v := (v4 + (1 : Int32))) (L' := [(4, .int (v4 + (1 : Int32))), (0, .ref v0), (1, .ref v1), (2, .ref v2), (3, .int v3)]) C dX8_firstBlindChoice_30 4 rfl rfl (by decide) rfl ?_
      refine V.goto (pc := 33) (t := 3) C dX8_firstBlindChoice_33 (by decide) ?_
      refine V.sub (L' := [(0, .ref v0), (1, .ref v1), (2, .ref v2), (3, .int v3), (4, .int (v4 + (1 : Int32)))]) [1, 2, 3, 4, 0] rfl ?_
      exact ih _ _ _ _ _ _ hf
    replace hf := ite_t c8 hf
    refine V.iload (pc := 27) C dX8_firstBlindChoice_27 4 rfl ?_
    obtain ⟨f1, f2⟩ := fin2 hf
    clear hf
    subst f1
    subst f2
    exact V.iret (pc := 29) C rfl dX8_firstBlindChoice_29
def fX8_firstBlindChoice (g : PH) (a0 : Nat) (a1 : Nat) (a2 : Nat) (a3 : Int32) : Option (Int32 × PH) :=
  okb (isO g a0 8) (fX8_firstBlindChoice_3 FUEL g a0 a1 a2 a3 (0 : Int32))
theorem oX8_firstBlindChoice {g : PH} {a0 : Nat} {a1 : Nat} {a2 : Nat} {a3 : Int32} {q : (Int32 × PH)} (h : fX8_firstBlindChoice g a0 a1 a2 a3 = some q) : isO g a0 8 = true := by unfold fX8_firstBlindChoice at h; exact (okb_some h).1
theorem hyX8_firstBlindChoice : hMet yX8_firstBlindChoice RX8 cX8_firstBlindChoice 5 (some .int) 3 := ⟨wd_589, wd_588, ws_18, wd_1, rfl, by decide +kernel, by decide +kernel, by decide +kernel⟩
set_option maxHeartbeats 4000000 in
set_option maxRecDepth 100000 in
theorem mX8_firstBlindChoice (l : Launch) (E : HE) (sz : Nat) {g g' : PH} {a0 : Nat} {a1 : Nat} {a2 : Nat} {a3 : Int32} {r : Int32} (hf : fX8_firstBlindChoice g a0 a1 a2 a3 = some (r, g')) : hM l E yX8_firstBlindChoice cX8_firstBlindChoice 5 (some .int) 3 83 0 0 sz g [.ref a0, .ref a1, .ref a2, .int a3] (some (.int r)) g' := by
  refine hM.of (by decide) (Nat.le_of_ble_eq_true rfl) (fun K hl C hin hsz => ?_)
  subst hl
  subst hsz
  have C : VC K E 5 cX8_firstBlindChoice RX8 (some .int) := C
  unfold fX8_firstBlindChoice at hf
  replace hf := okb_some hf
  obtain ⟨ho, hf⟩ := hf
  refine V.start (L' := [(0, .ref a0), (1, .ref a1), (2, .ref a2), (3, .int a3)]) rfl ?_
  refine V.iconst (pc := 0) C dX8_firstBlindChoice_0 (v := (0 : Int32)) (by decide) ?_
  refine V.istore (pc := 1) (L' := [(4, .int (0 : Int32)), (0, .ref a0), (1, .ref a1), (2, .ref a2), (3, .int a3)]) C dX8_firstBlindChoice_1 (by decide) rfl ?_
  refine V.sub (L' := [(0, .ref a0), (1, .ref a1), (2, .ref a2), (3, .int a3), (4, .int (0 : Int32))]) [1, 2, 3, 4, 0] rfl ?_
  exact bX8_firstBlindChoice_3 C  _ _ _ _ _ _ _ hf
theorem dX8_isAlwaysSeen_0 : decode cX8_isAlwaysSeen 0 = .ok (.iconst 0, 1) := by decide +kernel
theorem dX8_isAlwaysSeen_1 : decode cX8_isAlwaysSeen 1 = .ok (.istore_n 3, 1) := by decide +kernel
theorem dX8_isAlwaysSeen_2 : decode cX8_isAlwaysSeen 2 = .ok (.iload_n 3, 1) := by decide +kernel
theorem dX8_isAlwaysSeen_3 : decode cX8_isAlwaysSeen 3 = .ok (.iconst 4, 1) := by decide +kernel
theorem dX8_isAlwaysSeen_4 : decode cX8_isAlwaysSeen 4 = .ok (.if_icmp .ge 22, 3) := by decide +kernel
theorem dX8_isAlwaysSeen_7 : decode cX8_isAlwaysSeen 7 = .ok (.aload_n 0, 1) := by decide +kernel
theorem dX8_isAlwaysSeen_8 : decode cX8_isAlwaysSeen 8 = .ok (.aload_n 1, 1) := by decide +kernel
theorem dX8_isAlwaysSeen_9 : decode cX8_isAlwaysSeen 9 = .ok (.aload_n 2, 1) := by decide +kernel
theorem dX8_isAlwaysSeen_10 : decode cX8_isAlwaysSeen 10 = .ok (.iload_n 3, 1) := by decide +kernel
theorem dX8_isAlwaysSeen_11 : decode cX8_isAlwaysSeen 11 = .ok (.invokevirtual 300, 3) := by decide +kernel
theorem dX8_isAlwaysSeen_14 : decode cX8_isAlwaysSeen 14 = .ok (.iconst (-1), 1) := by decide +kernel
theorem dX8_isAlwaysSeen_15 : decode cX8_isAlwaysSeen 15 = .ok (.if_icmp .eq 5, 3) := by decide +kernel
theorem dX8_isAlwaysSeen_18 : decode cX8_isAlwaysSeen 18 = .ok (.iconst 0, 1) := by decide +kernel
theorem dX8_isAlwaysSeen_19 : decode cX8_isAlwaysSeen 19 = .ok (.ireturn, 1) := by decide +kernel
theorem dX8_isAlwaysSeen_20 : decode cX8_isAlwaysSeen 20 = .ok (.iinc 3 1, 3) := by decide +kernel
theorem dX8_isAlwaysSeen_23 : decode cX8_isAlwaysSeen 23 = .ok (.goto (-21), 3) := by decide +kernel
theorem dX8_isAlwaysSeen_26 : decode cX8_isAlwaysSeen 26 = .ok (.iconst 1, 1) := by decide +kernel
theorem dX8_isAlwaysSeen_27 : decode cX8_isAlwaysSeen 27 = .ok (.ireturn, 1) := by decide +kernel
def fX8_isAlwaysSeen_2  : Nat → PH → Nat → Nat → Nat → Int32 → Option (Int32 × PH)
  | 0, _, _, _, _, _ => none
  | n + 1, g, v0, v1, v2, v3 =>
  if (4 : Int32) ≤ v3 then (some ((1 : Int32), g)) else
  ((fX8_firstBlindChoice g v0 v1 v2 v3).bind fun q2 =>
  (if q2.1 = (-1 : Int32) then (fX8_isAlwaysSeen_2 n q2.2 v0 v1 v2 (v3 + (1 : Int32))) else
  (some ((0 : Int32), q2.2))))
set_option maxHeartbeats 4000000 in
set_option maxRecDepth 100000 in
theorem bX8_isAlwaysSeen_2 {K : HK} {E : HE} {r : Int32} {g' : PH}  (C : VC K E 4 cX8_isAlwaysSeen RX8 (some .boolean))  : ∀ (n : Nat) (g : PH) (v0 : Nat) (v1 : Nat) (v2 : Nat) (v3 : Int32), fX8_isAlwaysSeen_2  n g v0 v1 v2 v3 = some (r, g') → V K E (hRm 4 107 0 0) 4 (hZ K E (some (.int r)) g' 0 0) 0 0 (kS K) g 2 [(0, .ref v0), (1, .ref v1), (2, .ref v2), (3, .int v3)] [] := by
  intro n
  induction n with
  | zero =>
    intro g v0 v1 v2 v3 hf
    rw [fX8_isAlwaysSeen_2] at hf
    cases hf
  | succ n ih =>
    intro g v0 v1 v2 v3 hf
    rw [fX8_isAlwaysSeen_2] at hf
    refine V.iload_n (pc := 2) C dX8_isAlwaysSeen_2 3 rfl ?_
    refine V.iconst (pc := 3) C dX8_isAlwaysSeen_3 (v := (4 : Int32)) (by decide) ?_
    refine V.icmp_ge (pc := 4) (t := 26) C dX8_isAlwaysSeen_4 (by decide) (fun c1 => ?_) (fun c1 => ?_)
    · replace hf := ite_t c1 hf
      refine V.iconst (pc := 26) C dX8_isAlwaysSeen_26 (v := (1 : Int32)) (by decide) ?_
      obtain ⟨f1, f2⟩ := fin2 hf
      clear hf
      subst f1
      subst f2
      exact V.zret (pc := 27) C rfl rfl dX8_isAlwaysSeen_27
    replace hf := ite_f c1 hf
    refine V.aload_n (pc := 7) C dX8_isAlwaysSeen_7 0 rfl ?_
    refine V.aload_n (pc := 8) C dX8_isAlwaysSeen_8 1 rfl ?_
    refine V.aload_n (pc := 9) C dX8_isAlwaysSeen_9 2 rfl ?_
    refine V.iload_n (pc := 10) C dX8_isAlwaysSeen_10 3 rfl ?_
    replace hf := ob_some hf
    obtain ⟨q2, h3, hf⟩ := hf
    refine V.callV0i (pc := 11) C hyX8_firstBlindChoice wd_586 (mX8_firstBlindChoice (r := q2.1) (g' := q2.2) K.2.1 E (kS K) h3) rfl rfl rfl (oX8_firstBlindChoice h3) ⟨Nat.le_of_ble_eq_true rfl, Nat.le_of_ble_eq_true rfl⟩ (Nat.le_of_ble_eq_true rfl) dX8_isAlwaysSeen_11 ⟨Nat.zero_le _, Nat.zero_le _⟩ rfl ?_
    refine V.iconst (pc := 14) C dX8_isAlwaysSeen_14 (v := (-1 : Int32)) (by decide) ?_
    refine V.icmp_eq (pc := 15) (t := 20) C dX8_isAlwaysSeen_15 (by decide) (fun c4 => ?_) (fun c4 => ?_)
    · replace hf := ite_t c4 hf
      refine V.iinc (pc := 20) (v := (v3 + (1 : Int32))) (L' := [(3, .int (v3 + (1 : Int32))), (0, .ref v0), (1, .ref v1), (2, .ref v2)]) C dX8_isAlwaysSeen_20 3 rfl rfl (by decide) rfl ?_
      refine V.goto (pc := 23) (t := 2) C dX8_isAlwaysSeen_23 (by decide) ?_
      refine V.sub (L' := [(0, .ref v0), (1, .ref v1), (2, .ref v2), (3, .int (v3 + (1 : Int32)))]) [1, 2, 3, 0] rfl ?_
      exact ih _ _ _ _ _ hf
    replace hf := ite_f c4 hf
    refine V.iconst (pc := 18) C dX8_isAlwaysSeen_18 (v := (0 : Int32)) (by decide) ?_
    obtain ⟨f1, f2⟩ := fin2 hf
    clear hf
    subst f1
    subst f2
    exact V.zret (pc := 19) C rfl rfl dX8_isAlwaysSeen_19
def fX8_isAlwaysSeen (g : PH) (a0 : Nat) (a1 : Nat) (a2 : Nat) : Option (Int32 × PH) :=
  okb (isO g a0 8) (fX8_isAlwaysSeen_2 FUEL g a0 a1 a2 (0 : Int32))
theorem oX8_isAlwaysSeen {g : PH} {a0 : Nat} {a1 : Nat} {a2 : Nat} {q : (Int32 × PH)} (h : fX8_isAlwaysSeen g a0 a1 a2 = some q) : isO g a0 8 = true := by unfold fX8_isAlwaysSeen at h; exact (okb_some h).1
theorem hyX8_isAlwaysSeen : hMet yX8_isAlwaysSeen RX8 cX8_isAlwaysSeen 4 (some .boolean) 2 := ⟨wd_585, wd_584, ws_17, wd_1, rfl, by decide +kernel, by decide +kernel, by decide +kernel⟩
set_option maxHeartbeats 4000000 in
set_option maxRecDepth 100000 in
theorem mX8_isAlwaysSeen (l : Launch) (E : HE) (sz : Nat) {g g' : PH} {a0 : Nat} {a1 : Nat} {a2 : Nat} {r : Int32} (hf : fX8_isAlwaysSeen g a0 a1 a2 = some (r, g')) : hM l E yX8_isAlwaysSeen cX8_isAlwaysSeen 4 (some .boolean) 4 107 0 0 sz g [.ref a0, .ref a1, .ref a2] (some (.int r)) g' := by
  refine hM.of (by decide) (Nat.le_of_ble_eq_true rfl) (fun K hl C hin hsz => ?_)
  subst hl
  subst hsz
  have C : VC K E 4 cX8_isAlwaysSeen RX8 (some .boolean) := C
  unfold fX8_isAlwaysSeen at hf
  replace hf := okb_some hf
  obtain ⟨ho, hf⟩ := hf
  refine V.start (L' := [(0, .ref a0), (1, .ref a1), (2, .ref a2)]) rfl ?_
  refine V.iconst (pc := 0) C dX8_isAlwaysSeen_0 (v := (0 : Int32)) (by decide) ?_
  refine V.istore_n (pc := 1) (L' := [(3, .int (0 : Int32)), (0, .ref a0), (1, .ref a1), (2, .ref a2)]) C dX8_isAlwaysSeen_1 (by decide) rfl ?_
  refine V.sub (L' := [(0, .ref a0), (1, .ref a1), (2, .ref a2), (3, .int (0 : Int32))]) [1, 2, 3, 0] rfl ?_
  exact bX8_isAlwaysSeen_2 C  _ _ _ _ _ _ hf
