theorem dX1_init_0 : decode cX1_init 0 = .ok (.aload_n 0, 1) := by decide +kernel
theorem dX1_init_1 : decode cX1_init 1 = .ok (.invokespecial 3, 3) := by decide +kernel
theorem dX1_init_4 : decode cX1_init 4 = .ok (.aload_n 0, 1) := by decide +kernel
theorem dX1_init_5 : decode cX1_init 5 = .ok (.iconst 0, 1) := by decide +kernel
theorem dX1_init_6 : decode cX1_init 6 = .ok (.putfield 9, 3) := by decide +kernel
theorem dX1_init_9 : decode cX1_init 9 = .ok (.aload_n 0, 1) := by decide +kernel
theorem dX1_init_10 : decode cX1_init 10 = .ok (.iconst 0, 1) := by decide +kernel
theorem dX1_init_11 : decode cX1_init 11 = .ok (.putfield 15, 3) := by decide +kernel
theorem dX1_init_14 : decode cX1_init 14 = .ok (.aload_n 0, 1) := by decide +kernel
theorem dX1_init_15 : decode cX1_init 15 = .ok (.iconst 4, 1) := by decide +kernel
theorem dX1_init_16 : decode cX1_init 16 = .ok (.newarray .int, 2) := by decide +kernel
theorem dX1_init_18 : decode cX1_init 18 = .ok (.putfield 19, 3) := by decide +kernel
theorem dX1_init_21 : decode cX1_init 21 = .ok (.aload_n 0, 1) := by decide +kernel
theorem dX1_init_22 : decode cX1_init 22 = .ok (.iconst 4, 1) := by decide +kernel
theorem dX1_init_23 : decode cX1_init 23 = .ok (.newarray .int, 2) := by decide +kernel
theorem dX1_init_25 : decode cX1_init 25 = .ok (.putfield 23, 3) := by decide +kernel
theorem dX1_init_28 : decode cX1_init 28 = .ok (.aload_n 0, 1) := by decide +kernel
theorem dX1_init_29 : decode cX1_init 29 = .ok (.iconst 4, 1) := by decide +kernel
theorem dX1_init_30 : decode cX1_init 30 = .ok (.newarray .int, 2) := by decide +kernel
theorem dX1_init_32 : decode cX1_init 32 = .ok (.putfield 26, 3) := by decide +kernel
theorem dX1_init_35 : decode cX1_init 35 = .ok (.aload_n 0, 1) := by decide +kernel
theorem dX1_init_36 : decode cX1_init 36 = .ok (.iconst 4, 1) := by decide +kernel
theorem dX1_init_37 : decode cX1_init 37 = .ok (.newarray .int, 2) := by decide +kernel
theorem dX1_init_39 : decode cX1_init 39 = .ok (.putfield 29, 3) := by decide +kernel
theorem dX1_init_42 : decode cX1_init 42 = .ok (.aload_n 0, 1) := by decide +kernel
theorem dX1_init_43 : decode cX1_init 43 = .ok (.iconst 4, 1) := by decide +kernel
theorem dX1_init_44 : decode cX1_init 44 = .ok (.newarray .int, 2) := by decide +kernel
theorem dX1_init_46 : decode cX1_init 46 = .ok (.putfield 32, 3) := by decide +kernel
theorem dX1_init_49 : decode cX1_init 49 = .ok (.aload_n 0, 1) := by decide +kernel
theorem dX1_init_50 : decode cX1_init 50 = .ok (.bipush 24, 2) := by decide +kernel
theorem dX1_init_52 : decode cX1_init 52 = .ok (.newarray .int, 2) := by decide +kernel
theorem dX1_init_54 : decode cX1_init 54 = .ok (.putfield 35, 3) := by decide +kernel
theorem dX1_init_57 : decode cX1_init 57 = .ok (.aload_n 0, 1) := by decide +kernel
theorem dX1_init_58 : decode cX1_init 58 = .ok (.iconst 4, 1) := by decide +kernel
theorem dX1_init_59 : decode cX1_init 59 = .ok (.newarray .int, 2) := by decide +kernel
theorem dX1_init_61 : decode cX1_init 61 = .ok (.putfield 38, 3) := by decide +kernel
theorem dX1_init_64 : decode cX1_init 64 = .ok (.return_, 1) := by decide +kernel
def fX1_init (sz : Nat) (g : PH) (a0 : Nat) : Option (Unit × PH × Nat × Nat) :=
  (putV g a0 1 0 (.int (0 : Int32))).bind fun g1 =>
  ((putV g1 a0 1 1 (.int (0 : Int32))).bind fun g3 =>
  (bmp 1 4 ((putV (hup g3 sz (.inl (0, 4, .inl (fun _ => 0)))) a0 1 2 (.ref sz)).bind fun g10 =>
  (bmp 1 4 ((putV (hup g10 (sz + 1) (.inl (0, 4, .inl (fun _ => 0)))) a0 1 3 (.ref (sz + 1))).bind fun g17 =>
  (bmp 1 4 ((putV (hup g17 ((sz + 1) + 1) (.inl (0, 4, .inl (fun _ => 0)))) a0 1 4 (.ref ((sz + 1) + 1))).bind fun g24 =>
  (bmp 1 4 ((putV (hup g24 (((sz + 1) + 1) + 1) (.inl (0, 4, .inl (fun _ => 0)))) a0 1 5 (.ref (((sz + 1) + 1) + 1))).bind fun g31 =>
  (bmp 1 4 ((putV (hup g31 ((((sz + 1) + 1) + 1) + 1) (.inl (0, 4, .inl (fun _ => 0)))) a0 1 6 (.ref ((((sz + 1) + 1) + 1) + 1))).bind fun g38 =>
  (bmp 1 24 ((putV (hup g38 (((((sz + 1) + 1) + 1) + 1) + 1) (.inl (0, 24, .inl (fun _ => 0)))) a0 1 7 (.ref (((((sz + 1) + 1) + 1) + 1) + 1))).bind fun g45 =>
  (bmp 1 4 ((putV (hup g45 ((((((sz + 1) + 1) + 1) + 1) + 1) + 1) (.inl (0, 4, .inl (fun _ => 0)))) a0 1 8 (.ref ((((((sz + 1) + 1) + 1) + 1) + 1) + 1))).bind fun g52 =>
  (some ((), g52, 0, 0)))))))))))))))))
theorem hyX1_init : hMetI yX1_init cX1_init 1 0 := ⟨wd_244, wd_243, wd_8, rfl, by decide +kernel, by decide +kernel, by decide +kernel⟩
set_option maxHeartbeats 4000000 in
set_option maxRecDepth 100000 in
theorem mX1_init (l : Launch) (E : HE) (sz : Nat) {g g' : PH} {a0 : Nat} {r : Unit} {mc ms : Nat} (hf : fX1_init sz g a0 = some (r, g', mc, ms)) : hM l E yX1_init cX1_init 1 none 1 20 mc ms sz g [.ref a0] none g' := by
  refine hM.of (by decide) (Nat.le_of_ble_eq_true rfl) (fun K hl C hin hsz => ?_)
  subst hl
  subst hsz
  have C : VC K E 1 cX1_init RX1 none := C
  have hin := hin rfl
  unfold fX1_init at hf
  have hkS : K.2.2.2.1.heap.size = kS K := rfl
  have e1 : 0 + mc = mc := Nat.zero_add _
  have e2 : 0 + ms = ms := Nat.zero_add _
  have e3 : kS K = kS K + 0 := rfl
  refine V.start (L' := [(0, .ref a0)]) rfl ?_
  refine V.aload_n (pc := 0) C dX1_init_0 0 rfl ?_
  refine V.objInit (pc := 1) C wd_245 wd_25 wd_26 (Nat.le_of_ble_eq_true rfl) ⟨Nat.le_of_ble_eq_true rfl, Nat.le_of_ble_eq_true rfl⟩ dX1_init_1 ?_
  refine V.aload_n (pc := 4) C dX1_init_4 0 rfl ?_
  refine V.iconst (pc := 5) C dX1_init_5 (v := (0 : Int32)) (by decide) ?_
  replace hf := ob_some hf
  obtain ⟨g1, h2, hf⟩ := hf
  refine V.putX (pc := 6) C kX1 (k := 0) (by decide) wd_246 rfl rfl rfl h2 dX1_init_6 ?_
  refine V.aload_n (pc := 9) C dX1_init_9 0 rfl ?_
  refine V.iconst (pc := 10) C dX1_init_10 (v := (0 : Int32)) (by decide) ?_
  replace hf := ob_some hf
  obtain ⟨g3, h4, hf⟩ := hf
  refine V.putX (pc := 11) C kX1 (k := 1) (by decide) wd_248 rfl rfl rfl h4 dX1_init_11 ?_
  refine V.aload_n (pc := 14) C dX1_init_14 0 rfl ?_
  refine V.iconst (pc := 15) C dX1_init_15 (v := (4 : Int32)) (by decide) ?_
  replace hf := bmp_some hf
  obtain ⟨b5, b6, hf, h7, h8⟩ := hf
  refine V.newI (pc := 16) (M := 4) C wd_106 (by decide) (by decide) (by decide) (by show _ ≤ mc; omega) (by show _ ≤ ms; omega) dX1_init_16 ?_
  replace hf := ob_some hf
  obtain ⟨g10, h11, hf⟩ := hf
  refine V.putF (pc := 18) C kX1 (k := 2) (by decide) wd_250 rfl hin rfl rfl rfl h11 dX1_init_18 ?_
  refine V.aload_n (pc := 21) C dX1_init_21 0 rfl ?_
  refine V.iconst (pc := 22) C dX1_init_22 (v := (4 : Int32)) (by decide) ?_
  replace hf := bmp_some hf
  obtain ⟨b12, b13, hf, h14, h15⟩ := hf
  refine V.newI (pc := 23) (M := 4) C wd_106 (by decide) (by decide) (by decide) (by show _ ≤ mc; omega) (by show _ ≤ ms; omega) dX1_init_23 ?_
  replace hf := ob_some hf
  obtain ⟨g17, h18, hf⟩ := hf
  refine V.putF (pc := 25) C kX1 (k := 3) (by decide) wd_251 rfl hin rfl rfl rfl h18 dX1_init_25 ?_
  refine V.aload_n (pc := 28) C dX1_init_28 0 rfl ?_
  refine V.iconst (pc := 29) C dX1_init_29 (v := (4 : Int32)) (by decide) ?_
  replace hf := bmp_some hf
  obtain ⟨b19, b20, hf, h21, h22⟩ := hf
  refine V.newI (pc := 30) (M := 4) C wd_106 (by decide) (by decide) (by decide) (by show _ ≤ mc; omega) (by show _ ≤ ms; omega) dX1_init_30 ?_
  replace hf := ob_some hf
  obtain ⟨g24, h25, hf⟩ := hf
  refine V.putF (pc := 32) C kX1 (k := 4) (by decide) wd_252 rfl hin rfl rfl rfl h25 dX1_init_32 ?_
  refine V.aload_n (pc := 35) C dX1_init_35 0 rfl ?_
  refine V.iconst (pc := 36) C dX1_init_36 (v := (4 : Int32)) (by decide) ?_
  replace hf := bmp_some hf
  obtain ⟨b26, b27, hf, h28, h29⟩ := hf
  refine V.newI (pc := 37) (M := 4) C wd_106 (by decide) (by decide) (by decide) (by show _ ≤ mc; omega) (by show _ ≤ ms; omega) dX1_init_37 ?_
  replace hf := ob_some hf
  obtain ⟨g31, h32, hf⟩ := hf
  refine V.putF (pc := 39) C kX1 (k := 5) (by decide) wd_253 rfl hin rfl rfl rfl h32 dX1_init_39 ?_
  refine V.aload_n (pc := 42) C dX1_init_42 0 rfl ?_
  refine V.iconst (pc := 43) C dX1_init_43 (v := (4 : Int32)) (by decide) ?_
  replace hf := bmp_some hf
  obtain ⟨b33, b34, hf, h35, h36⟩ := hf
  refine V.newI (pc := 44) (M := 4) C wd_106 (by decide) (by decide) (by decide) (by show _ ≤ mc; omega) (by show _ ≤ ms; omega) dX1_init_44 ?_
  replace hf := ob_some hf
  obtain ⟨g38, h39, hf⟩ := hf
  refine V.putF (pc := 46) C kX1 (k := 6) (by decide) wd_254 rfl hin rfl rfl rfl h39 dX1_init_46 ?_
  refine V.aload_n (pc := 49) C dX1_init_49 0 rfl ?_
  refine V.bipush (pc := 50) C dX1_init_50 (v := (24 : Int32)) (by decide) ?_
  replace hf := bmp_some hf
  obtain ⟨b40, b41, hf, h42, h43⟩ := hf
  refine V.newI (pc := 52) (M := 24) C wd_106 (by decide) (by decide) (by decide) (by show _ ≤ mc; omega) (by show _ ≤ ms; omega) dX1_init_52 ?_
  replace hf := ob_some hf
  obtain ⟨g45, h46, hf⟩ := hf
  refine V.putF (pc := 54) C kX1 (k := 7) (by decide) wd_255 rfl hin rfl rfl rfl h46 dX1_init_54 ?_
  refine V.aload_n (pc := 57) C dX1_init_57 0 rfl ?_
  refine V.iconst (pc := 58) C dX1_init_58 (v := (4 : Int32)) (by decide) ?_
  replace hf := bmp_some hf
  obtain ⟨b47, b48, hf, h49, h50⟩ := hf
  refine V.newI (pc := 59) (M := 4) C wd_106 (by decide) (by decide) (by decide) (by show _ ≤ mc; omega) (by show _ ≤ ms; omega) dX1_init_59 ?_
  replace hf := ob_some hf
  obtain ⟨g52, h53, hf⟩ := hf
  refine V.putF (pc := 61) C kX1 (k := 8) (by decide) wd_256 rfl hin rfl rfl rfl h53 dX1_init_61 ?_
  obtain ⟨f1, f2, f3, f4⟩ := fin4 hf
  clear hf
  subst f1
  subst f2
  refine V.cast (c := mc) (s := ms) (by omega) (by omega) ?_
  exact V.vret (pc := 64) C (by omega) dX1_init_64
theorem dX1_scanBody_0 : decode cX1_scanBody 0 = .ok (.iload_n 2, 1) := by decide +kernel
theorem dX1_scanBody_1 : decode cX1_scanBody 1 = .ok (.iconst 5, 1) := by decide +kernel
theorem dX1_scanBody_2 : decode cX1_scanBody 2 = .ok (.if_icmp .ne 4, 3) := by decide +kernel
theorem dX1_scanBody_5 : decode cX1_scanBody 5 = .ok (.return_, 1) := by decide +kernel
theorem dX1_scanBody_6 : decode cX1_scanBody 6 = .ok (.iload_n 2, 1) := by decide +kernel
theorem dX1_scanBody_7 : decode cX1_scanBody 7 = .ok (.ifCond .eq 8, 3) := by decide +kernel
theorem dX1_scanBody_10 : decode cX1_scanBody 10 = .ok (.iload_n 2, 1) := by decide +kernel
theorem dX1_scanBody_11 : decode cX1_scanBody 11 = .ok (.iconst 1, 1) := by decide +kernel
theorem dX1_scanBody_12 : decode cX1_scanBody 12 = .ok (.if_icmp .ne 7, 3) := by decide +kernel
theorem dX1_scanBody_15 : decode cX1_scanBody 15 = .ok (.iconst 1, 1) := by decide +kernel
theorem dX1_scanBody_16 : decode cX1_scanBody 16 = .ok (.goto 4, 3) := by decide +kernel
theorem dX1_scanBody_19 : decode cX1_scanBody 19 = .ok (.iconst 0, 1) := by decide +kernel
theorem dX1_scanBody_20 : decode cX1_scanBody 20 = .ok (.istore_n 3, 1) := by decide +kernel
theorem dX1_scanBody_21 : decode cX1_scanBody 21 = .ok (.iconst 0, 1) := by decide +kernel
theorem dX1_scanBody_22 : decode cX1_scanBody 22 = .ok (.istore 4, 2) := by decide +kernel
theorem dX1_scanBody_24 : decode cX1_scanBody 24 = .ok (.iload_n 3, 1) := by decide +kernel
theorem dX1_scanBody_25 : decode cX1_scanBody 25 = .ok (.ifCond .ne 8, 3) := by decide +kernel
theorem dX1_scanBody_28 : decode cX1_scanBody 28 = .ok (.iload_n 2, 1) := by decide +kernel
theorem dX1_scanBody_29 : decode cX1_scanBody 29 = .ok (.iconst 2, 1) := by decide +kernel
theorem dX1_scanBody_30 : decode cX1_scanBody 30 = .ok (.if_icmp .ne 18, 3) := by decide +kernel
theorem dX1_scanBody_33 : decode cX1_scanBody 33 = .ok (.aload_n 0, 1) := by decide +kernel
theorem dX1_scanBody_34 : decode cX1_scanBody 34 = .ok (.getfield 23, 3) := by decide +kernel
theorem dX1_scanBody_37 : decode cX1_scanBody 37 = .ok (.aload_n 0, 1) := by decide +kernel
theorem dX1_scanBody_38 : decode cX1_scanBody 38 = .ok (.getfield 9, 3) := by decide +kernel
theorem dX1_scanBody_41 : decode cX1_scanBody 41 = .ok (.aload_n 1, 1) := by decide +kernel
theorem dX1_scanBody_42 : decode cX1_scanBody 42 = .ok (.ldc 74, 2) := by decide +kernel
theorem dX1_scanBody_44 : decode cX1_scanBody 44 = .ok (.invokevirtual 56, 3) := by decide +kernel
theorem dX1_scanBody_47 : decode cX1_scanBody 47 = .ok (.iastore, 1) := by decide +kernel
theorem dX1_scanBody_48 : decode cX1_scanBody 48 = .ok (.iload_n 3, 1) := by decide +kernel
theorem dX1_scanBody_49 : decode cX1_scanBody 49 = .ok (.ifCond .eq 63, 3) := by decide +kernel
theorem dX1_scanBody_52 : decode cX1_scanBody 52 = .ok (.aload_n 1, 1) := by decide +kernel
theorem dX1_scanBody_53 : decode cX1_scanBody 53 = .ok (.ldc 76, 2) := by decide +kernel
theorem dX1_scanBody_55 : decode cX1_scanBody 55 = .ok (.invokevirtual 56, 3) := by decide +kernel
theorem dX1_scanBody_58 : decode cX1_scanBody 58 = .ok (.iconst 1, 1) := by decide +kernel
theorem dX1_scanBody_59 : decode cX1_scanBody 59 = .ok (.if_icmp .ne 7, 3) := by decide +kernel
theorem dX1_scanBody_62 : decode cX1_scanBody 62 = .ok (.iconst 1, 1) := by decide +kernel
theorem dX1_scanBody_63 : decode cX1_scanBody 63 = .ok (.goto 4, 3) := by decide +kernel
theorem dX1_scanBody_66 : decode cX1_scanBody 66 = .ok (.iconst 0, 1) := by decide +kernel
theorem dX1_scanBody_67 : decode cX1_scanBody 67 = .ok (.istore 4, 2) := by decide +kernel
theorem dX1_scanBody_69 : decode cX1_scanBody 69 = .ok (.iload 4, 2) := by decide +kernel
theorem dX1_scanBody_71 : decode cX1_scanBody 71 = .ok (.ifCond .eq 26, 3) := by decide +kernel
theorem dX1_scanBody_74 : decode cX1_scanBody 74 = .ok (.aload_n 0, 1) := by decide +kernel
theorem dX1_scanBody_75 : decode cX1_scanBody 75 = .ok (.getfield 19, 3) := by decide +kernel
theorem dX1_scanBody_78 : decode cX1_scanBody 78 = .ok (.aload_n 0, 1) := by decide +kernel
theorem dX1_scanBody_79 : decode cX1_scanBody 79 = .ok (.getfield 9, 3) := by decide +kernel
theorem dX1_scanBody_82 : decode cX1_scanBody 82 = .ok (.iload_n 2, 1) := by decide +kernel
theorem dX1_scanBody_83 : decode cX1_scanBody 83 = .ok (.ifCond .ne 8, 3) := by decide +kernel
theorem dX1_scanBody_86 : decode cX1_scanBody 86 = .ok (.bipush 7, 2) := by decide +kernel
theorem dX1_scanBody_88 : decode cX1_scanBody 88 = .ok (.goto 5, 3) := by decide +kernel
theorem dX1_scanBody_91 : decode cX1_scanBody 91 = .ok (.bipush 8, 2) := by decide +kernel
theorem dX1_scanBody_93 : decode cX1_scanBody 93 = .ok (.iastore, 1) := by decide +kernel
theorem dX1_scanBody_94 : decode cX1_scanBody 94 = .ok (.goto 18, 3) := by decide +kernel
theorem dX1_scanBody_97 : decode cX1_scanBody 97 = .ok (.aload_n 0, 1) := by decide +kernel
theorem dX1_scanBody_98 : decode cX1_scanBody 98 = .ok (.getfield 26, 3) := by decide +kernel
theorem dX1_scanBody_101 : decode cX1_scanBody 101 = .ok (.aload_n 0, 1) := by decide +kernel
theorem dX1_scanBody_102 : decode cX1_scanBody 102 = .ok (.getfield 9, 3) := by decide +kernel
theorem dX1_scanBody_105 : decode cX1_scanBody 105 = .ok (.aload_n 1, 1) := by decide +kernel
theorem dX1_scanBody_106 : decode cX1_scanBody 106 = .ok (.ldc 74, 2) := by decide +kernel
theorem dX1_scanBody_108 : decode cX1_scanBody 108 = .ok (.invokevirtual 56, 3) := by decide +kernel
theorem dX1_scanBody_111 : decode cX1_scanBody 111 = .ok (.iastore, 1) := by decide +kernel
theorem dX1_scanBody_112 : decode cX1_scanBody 112 = .ok (.aload_n 1, 1) := by decide +kernel
theorem dX1_scanBody_113 : decode cX1_scanBody 113 = .ok (.ldc 78, 2) := by decide +kernel
theorem dX1_scanBody_115 : decode cX1_scanBody 115 = .ok (.invokevirtual 56, 3) := by decide +kernel
theorem dX1_scanBody_118 : decode cX1_scanBody 118 = .ok (.pop, 1) := by decide +kernel
theorem dX1_scanBody_119 : decode cX1_scanBody 119 = .ok (.aload_n 0, 1) := by decide +kernel
theorem dX1_scanBody_120 : decode cX1_scanBody 120 = .ok (.getfield 29, 3) := by decide +kernel
theorem dX1_scanBody_123 : decode cX1_scanBody 123 = .ok (.aload_n 0, 1) := by decide +kernel
theorem dX1_scanBody_124 : decode cX1_scanBody 124 = .ok (.getfield 9, 3) := by decide +kernel
theorem dX1_scanBody_127 : decode cX1_scanBody 127 = .ok (.aload_n 1, 1) := by decide +kernel
theorem dX1_scanBody_128 : decode cX1_scanBody 128 = .ok (.iload_n 2, 1) := by decide +kernel
theorem dX1_scanBody_129 : decode cX1_scanBody 129 = .ok (.iconst 1, 1) := by decide +kernel
theorem dX1_scanBody_130 : decode cX1_scanBody 130 = .ok (.if_icmp .ne 8, 3) := by decide +kernel
theorem dX1_scanBody_133 : decode cX1_scanBody 133 = .ok (.ldc 80, 2) := by decide +kernel
theorem dX1_scanBody_135 : decode cX1_scanBody 135 = .ok (.goto 5, 3) := by decide +kernel
theorem dX1_scanBody_138 : decode cX1_scanBody 138 = .ok (.ldc 74, 2) := by decide +kernel
theorem dX1_scanBody_140 : decode cX1_scanBody 140 = .ok (.invokevirtual 56, 3) := by decide +kernel
theorem dX1_scanBody_143 : decode cX1_scanBody 143 = .ok (.iastore, 1) := by decide +kernel
theorem dX1_scanBody_144 : decode cX1_scanBody 144 = .ok (.iload 4, 2) := by decide +kernel
theorem dX1_scanBody_146 : decode cX1_scanBody 146 = .ok (.ifCond .eq 29, 3) := by decide +kernel
theorem dX1_scanBody_149 : decode cX1_scanBody 149 = .ok (.iload_n 2, 1) := by decide +kernel
theorem dX1_scanBody_150 : decode cX1_scanBody 150 = .ok (.ifCond .ne 25, 3) := by decide +kernel
theorem dX1_scanBody_153 : decode cX1_scanBody 153 = .ok (.aload_n 1, 1) := by decide +kernel
theorem dX1_scanBody_154 : decode cX1_scanBody 154 = .ok (.ldc 82, 2) := by decide +kernel
theorem dX1_scanBody_156 : decode cX1_scanBody 156 = .ok (.invokevirtual 56, 3) := by decide +kernel
theorem dX1_scanBody_159 : decode cX1_scanBody 159 = .ok (.pop, 1) := by decide +kernel
theorem dX1_scanBody_160 : decode cX1_scanBody 160 = .ok (.aload_n 0, 1) := by decide +kernel
theorem dX1_scanBody_161 : decode cX1_scanBody 161 = .ok (.getfield 32, 3) := by decide +kernel
theorem dX1_scanBody_164 : decode cX1_scanBody 164 = .ok (.aload_n 0, 1) := by decide +kernel
theorem dX1_scanBody_165 : decode cX1_scanBody 165 = .ok (.getfield 9, 3) := by decide +kernel
theorem dX1_scanBody_168 : decode cX1_scanBody 168 = .ok (.aload_n 1, 1) := by decide +kernel
theorem dX1_scanBody_169 : decode cX1_scanBody 169 = .ok (.ldc 74, 2) := by decide +kernel
theorem dX1_scanBody_171 : decode cX1_scanBody 171 = .ok (.invokevirtual 56, 3) := by decide +kernel
theorem dX1_scanBody_174 : decode cX1_scanBody 174 = .ok (.iastore, 1) := by decide +kernel
theorem dX1_scanBody_175 : decode cX1_scanBody 175 = .ok (.return_, 1) := by decide +kernel
def fX1_scanBody_140  (g : PH) (v0 : Nat) (v1 : Nat) (v2 : Int32) (v4 : Int32) (s0 : Nat) (s1 : Nat) (s2 : Int32) (s3 : Nat) : Option (Unit × PH) :=
  (fX6_take g s1 s0).bind fun q1 =>
  ((stI q1.2 s3 0 s2 q1.1).bind fun g3 =>
  (if v4 = 0 then (some ((), g3)) else
  (if v2 = 0 then ((fX6_take g3 v1 5).bind fun q7 =>
  ((getR q7.2 v0 1 6).bind fun p9 =>
  ((getI q7.2 v0 1 0).bind fun x11 =>
  ((fX6_take q7.2 v1 1).bind fun q13 =>
  ((stI q13.2 p9 0 x11 q13.1).bind fun g15 =>
  (some ((), g15))))))) else
  (some ((), g3)))))
set_option maxHeartbeats 4000000 in
set_option maxRecDepth 100000 in
theorem bX1_scanBody_140 {K : HK} {E : HE} {r : Unit} {g' : PH}  (C : VC K E 5 cX1_scanBody RX1 none)  {g : PH} {v0 : Nat} {v1 : Nat} {v2 : Int32} {v4 : Int32} {s0 : Nat} {s1 : Nat} {s2 : Int32} {s3 : Nat} (hf : fX1_scanBody_140  g v0 v1 v2 v4 s0 s1 s2 s3 = some (r, g')) : V K E (hRm 5 114 0 0) 5 (hZ K E none g' 0 0) 0 0 (kS K) g 140 [(0, .ref v0), (1, .ref v1), (2, .int v2), (4, .int v4)] [.ref (eK E s0), .ref s1, .int s2, .ref s3] := by
  unfold fX1_scanBody_140 at hf
  replace hf := ob_some hf
  obtain ⟨q1, h2, hf⟩ := hf
  refine V.callV0i (pc := 140) C hyX6_take wd_297 (mX6_take (r := q1.1) (g' := q1.2) K.2.1 E (kS K) h2) rfl rfl rfl (oX6_take h2) ⟨Nat.le_of_ble_eq_true rfl, Nat.le_of_ble_eq_true rfl⟩ (Nat.le_of_ble_eq_true rfl) dX1_scanBody_140 ⟨Nat.zero_le _, Nat.zero_le _⟩ rfl ?_
  replace hf := ob_some hf
  obtain ⟨g3, h4, hf⟩ := hf
  refine V.iast (pc := 143) C h4 dX1_scanBody_143 ?_
  refine V.iload (pc := 144) C dX1_scanBody_144 3 rfl ?_
  refine V.if_eq (pc := 146) (t := 175) C dX1_scanBody_146 (by decide) (fun c5 => ?_) (fun c5 => ?_)
  · replace hf := ite_t c5 hf
    obtain ⟨f1, f2⟩ := fin2 hf
    clear hf
    subst f1
    subst f2
    exact V.vret (pc := 175) C rfl dX1_scanBody_175
  replace hf := ite_f c5 hf
  refine V.iload_n (pc := 149) C dX1_scanBody_149 2 rfl ?_
  refine V.if_ne (pc := 150) (t := 175) C dX1_scanBody_150 (by decide) (fun c6 => ?_) (fun c6 => ?_)
  · replace hf := ite_f c6 hf
    obtain ⟨f1, f2⟩ := fin2 hf
    clear hf
    subst f1
    subst f2
    exact V.vret (pc := 175) C rfl dX1_scanBody_175
  replace hf := ite_t c6 hf
  refine V.aload_n (pc := 153) C dX1_scanBody_153 1 rfl ?_
  refine V.ldcS (pc := 154) C (j := 5) rfl dX1_scanBody_154 ?_
  replace hf := ob_some hf
  obtain ⟨q7, h8, hf⟩ := hf
  refine V.callV0i (pc := 156) C hyX6_take wd_297 (mX6_take (r := q7.1) (g' := q7.2) K.2.1 E (kS K) h8) rfl rfl rfl (oX6_take h8) ⟨Nat.le_of_ble_eq_true rfl, Nat.le_of_ble_eq_true rfl⟩ (Nat.le_of_ble_eq_true rfl) dX1_scanBody_156 ⟨Nat.zero_le _, Nat.zero_le _⟩ rfl ?_
  refine V.pop (pc := 159) C dX1_scanBody_159 rfl ?_
  refine V.aload_n (pc := 160) C dX1_scanBody_160 0 rfl ?_
  replace hf := ob_some hf
  obtain ⟨p9, h10, hf⟩ := hf
  refine V.getR (pc := 161) C kX1 (k := 6) (by decide) wd_254 h10 dX1_scanBody_161 ?_
  refine V.aload_n (pc := 164) C dX1_scanBody_164 0 rfl ?_
  replace hf := ob_some hf
  obtain ⟨x11, h12, hf⟩ := hf
  refine V.getI (pc := 165) C kX1 (k := 0) (by decide) wd_246 h12 dX1_scanBody_165 ?_
  refine V.aload_n (pc := 168) C dX1_scanBody_168 1 rfl ?_
  refine V.ldcS (pc := 169) C (j := 1) rfl dX1_scanBody_169 ?_
  replace hf := ob_some hf
  obtain ⟨q13, h14, hf⟩ := hf
  refine V.callV0i (pc := 171) C hyX6_take wd_297 (mX6_take (r := q13.1) (g' := q13.2) K.2.1 E (kS K) h14) rfl rfl rfl (oX6_take h14) ⟨Nat.le_of_ble_eq_true rfl, Nat.le_of_ble_eq_true rfl⟩ (Nat.le_of_ble_eq_true rfl) dX1_scanBody_171 ⟨Nat.zero_le _, Nat.zero_le _⟩ rfl ?_
  replace hf := ob_some hf
  obtain ⟨g15, h16, hf⟩ := hf
  refine V.iast (pc := 174) C h16 dX1_scanBody_174 ?_
  obtain ⟨f1, f2⟩ := fin2 hf
  clear hf
  subst f1
  subst f2
  exact V.vret (pc := 175) C rfl dX1_scanBody_175
def fX1_scanBody_112  (g : PH) (v0 : Nat) (v1 : Nat) (v2 : Int32) (v4 : Int32) : Option (Unit × PH) :=
  (fX6_take g v1 3).bind fun q1 =>
  ((getR q1.2 v0 1 5).bind fun p3 =>
  ((getI q1.2 v0 1 0).bind fun x5 =>
  (if v2 = (1 : Int32) then (fX1_scanBody_140 q1.2 v0 v1 v2 v4 4 v1 x5 p3) else
  (fX1_scanBody_140 q1.2 v0 v1 v2 v4 1 v1 x5 p3))))
set_option maxHeartbeats 4000000 in
set_option maxRecDepth 100000 in
theorem bX1_scanBody_112 {K : HK} {E : HE} {r : Unit} {g' : PH}  (C : VC K E 5 cX1_scanBody RX1 none)  {g : PH} {v0 : Nat} {v1 : Nat} {v2 : Int32} {v4 : Int32} (hf : fX1_scanBody_112  g v0 v1 v2 v4 = some (r, g')) : V K E (hRm 5 114 0 0) 5 (hZ K E none g' 0 0) 0 0 (kS K) g 112 [(0, .ref v0), (1, .ref v1), (2, .int v2), (4, .int v4)] [] := by
  unfold fX1_scanBody_112 at hf
  refine V.aload_n (pc := 112) C dX1_scanBody_112 1 rfl ?_
  refine V.ldcS (pc := 113) C (j := 3) rfl dX1_scanBody_113 ?_
  replace hf := ob_some hf
  obtain ⟨q1, h2, hf⟩ := hf
  refine V.callV0i (pc := 115) C hyX6_take wd_297 (mX6_take (r := q1.1) (g' := q1.2) K.2.1 E (kS K) h2) rfl rfl rfl (oX6_take h2) ⟨Nat.le_of_ble_eq_true rfl, Nat.le_of_ble_eq_true rfl⟩ (Nat.le_of_ble_eq_true rfl) dX1_scanBody_115 ⟨Nat.zero_le _, Nat.zero_le _⟩ rfl ?_
  refine V.pop (pc := 118) C dX1_scanBody_118 rfl ?_
  refine V.aload_n (pc := 119) C dX1_scanBody_119 0 rfl ?_
  replace hf := ob_some hf
  obtain ⟨p3, h4, hf⟩ := hf
  refine V.getR (pc := 120) C kX1 (k := 5) (by decide) wd_253 h4 dX1_scanBody_120 ?_
  refine V.aload_n (pc := 123) C dX1_scanBody_123 0 rfl ?_
  replace hf := ob_some hf
  obtain ⟨x5, h6, hf⟩ := hf
  refine V.getI (pc := 124) C kX1 (k := 0) (by decide) wd_246 h6 dX1_scanBody_124 ?_
  refine V.aload_n (pc := 127) C dX1_scanBody_127 1 rfl ?_
  refine V.iload_n (pc := 128) C dX1_scanBody_128 2 rfl ?_
  refine V.iconst (pc := 129) C dX1_scanBody_129 (v := (1 : Int32)) (by decide) ?_
  refine V.icmp_ne (pc := 130) (t := 138) C dX1_scanBody_130 (by decide) (fun c7 => ?_) (fun c7 => ?_)
  · replace hf := ite_f c7 hf
    refine V.ldcS (pc := 138) C (j := 1) rfl dX1_scanBody_138 ?_
    refine V.sub (L' := [(0, .ref v0), (1, .ref v1), (2, .int v2), (4, .int v4)]) [0, 1, 2, 3] rfl ?_
    exact bX1_scanBody_140 C  hf
  replace hf := ite_t c7 hf
  refine V.ldcS (pc := 133) C (j := 4) rfl dX1_scanBody_133 ?_
  refine V.goto (pc := 135) (t := 140) C dX1_scanBody_135 (by decide) ?_
  refine V.sub (L' := [(0, .ref v0), (1, .ref v1), (2, .int v2), (4, .int v4)]) [0, 1, 2, 3] rfl ?_
  exact bX1_scanBody_140 C  hf
def fX1_scanBody_93  (g : PH) (v0 : Nat) (v1 : Nat) (v2 : Int32) (v4 : Int32) (s0 : Int32) (s1 : Int32) (s2 : Nat) : Option (Unit × PH) :=
  (stI g s2 0 s1 s0).bind fun g1 =>
  (fX1_scanBody_112 g1 v0 v1 v2 v4)
set_option maxHeartbeats 4000000 in
set_option maxRecDepth 100000 in
theorem bX1_scanBody_93 {K : HK} {E : HE} {r : Unit} {g' : PH}  (C : VC K E 5 cX1_scanBody RX1 none)  {g : PH} {v0 : Nat} {v1 : Nat} {v2 : Int32} {v4 : Int32} {s0 : Int32} {s1 : Int32} {s2 : Nat} (hf : fX1_scanBody_93  g v0 v1 v2 v4 s0 s1 s2 = some (r, g')) : V K E (hRm 5 114 0 0) 5 (hZ K E none g' 0 0) 0 0 (kS K) g 93 [(0, .ref v0), (1, .ref v1), (2, .int v2), (4, .int v4)] [.int s0, .int s1, .ref s2] := by
  unfold fX1_scanBody_93 at hf
  replace hf := ob_some hf
  obtain ⟨g1, h2, hf⟩ := hf
  refine V.iast (pc := 93) C h2 dX1_scanBody_93 ?_
  refine V.goto (pc := 94) (t := 112) C dX1_scanBody_94 (by decide) ?_
  refine V.sub (L' := [(0, .ref v0), (1, .ref v1), (2, .int v2), (4, .int v4)]) [0, 1, 2, 3] rfl ?_
  exact bX1_scanBody_112 C  hf
def fX1_scanBody_67  (g : PH) (v0 : Nat) (v1 : Nat) (v2 : Int32) (s0 : Int32) : Option (Unit × PH) :=
  if s0 = 0 then ((getR g v0 1 4).bind fun p2 =>
  ((getI g v0 1 0).bind fun x4 =>
  ((fX6_take g v1 1).bind fun q6 =>
  ((stI q6.2 p2 0 x4 q6.1).bind fun g8 =>
  (fX1_scanBody_112 g8 v0 v1 v2 s0))))) else
  ((getR g v0 1 2).bind fun p10 =>
  ((getI g v0 1 0).bind fun x12 =>
  (if v2 = 0 then (fX1_scanBody_93 g v0 v1 v2 s0 (7 : Int32) x12 p10) else
  (fX1_scanBody_93 g v0 v1 v2 s0 (8 : Int32) x12 p10))))
set_option maxHeartbeats 4000000 in
set_option maxRecDepth 100000 in
theorem bX1_scanBody_67 {K : HK} {E : HE} {r : Unit} {g' : PH}  (C : VC K E 5 cX1_scanBody RX1 none)  {g : PH} {v0 : Nat} {v1 : Nat} {v2 : Int32} {s0 : Int32} (hf : fX1_scanBody_67  g v0 v1 v2 s0 = some (r, g')) : V K E (hRm 5 114 0 0) 5 (hZ K E none g' 0 0) 0 0 (kS K) g 67 [(0, .ref v0), (1, .ref v1), (2, .int v2)] [.int s0] := by
  unfold fX1_scanBody_67 at hf
  refine V.istore (pc := 67) (L' := [(4, .int s0), (0, .ref v0), (1, .ref v1), (2, .int v2)]) C dX1_scanBody_67 (by decide) rfl ?_
  refine V.iload (pc := 69) C dX1_scanBody_69 0 rfl ?_
  refine V.if_eq (pc := 71) (t := 97) C dX1_scanBody_71 (by decide) (fun c1 => ?_) (fun c1 => ?_)
  · replace hf := ite_t c1 hf
    refine V.aload_n (pc := 97) C dX1_scanBody_97 1 rfl ?_
    replace hf := ob_some hf
    obtain ⟨p2, h3, hf⟩ := hf
    refine V.getR (pc := 98) C kX1 (k := 4) (by decide) wd_252 h3 dX1_scanBody_98 ?_
    refine V.aload_n (pc := 101) C dX1_scanBody_101 1 rfl ?_
    replace hf := ob_some hf
    obtain ⟨x4, h5, hf⟩ := hf
    refine V.getI (pc := 102) C kX1 (k := 0) (by decide) wd_246 h5 dX1_scanBody_102 ?_
    refine V.aload_n (pc := 105) C dX1_scanBody_105 2 rfl ?_
    refine V.ldcS (pc := 106) C (j := 1) rfl dX1_scanBody_106 ?_
    replace hf := ob_some hf
    obtain ⟨q6, h7, hf⟩ := hf
    refine V.callV0i (pc := 108) C hyX6_take wd_297 (mX6_take (r := q6.1) (g' := q6.2) K.2.1 E (kS K) h7) rfl rfl rfl (oX6_take h7) ⟨Nat.le_of_ble_eq_true rfl, Nat.le_of_ble_eq_true rfl⟩ (Nat.le_of_ble_eq_true rfl) dX1_scanBody_108 ⟨Nat.zero_le _, Nat.zero_le _⟩ rfl ?_
    replace hf := ob_some hf
    obtain ⟨g8, h9, hf⟩ := hf
    refine V.iast (pc := 111) C h9 dX1_scanBody_111 ?_
    refine V.sub (L' := [(0, .ref v0), (1, .ref v1), (2, .int v2), (4, .int s0)]) [1, 2, 3, 0] rfl ?_
    exact bX1_scanBody_112 C  hf
  replace hf := ite_f c1 hf
  refine V.aload_n (pc := 74) C dX1_scanBody_74 1 rfl ?_
  replace hf := ob_some hf
  obtain ⟨p10, h11, hf⟩ := hf
  refine V.getR (pc := 75) C kX1 (k := 2) (by decide) wd_250 h11 dX1_scanBody_75 ?_
  refine V.aload_n (pc := 78) C dX1_scanBody_78 1 rfl ?_
  replace hf := ob_some hf
  obtain ⟨x12, h13, hf⟩ := hf
  refine V.getI (pc := 79) C kX1 (k := 0) (by decide) wd_246 h13 dX1_scanBody_79 ?_
  refine V.iload_n (pc := 82) C dX1_scanBody_82 3 rfl ?_
  refine V.if_ne (pc := 83) (t := 91) C dX1_scanBody_83 (by decide) (fun c14 => ?_) (fun c14 => ?_)
  · replace hf := ite_f c14 hf
    refine V.bipush (pc := 91) C dX1_scanBody_91 (v := (8 : Int32)) (by decide) ?_
    refine V.sub (L' := [(0, .ref v0), (1, .ref v1), (2, .int v2), (4, .int s0)]) [1, 2, 3, 0] rfl ?_
    exact bX1_scanBody_93 C  hf
  replace hf := ite_t c14 hf
  refine V.bipush (pc := 86) C dX1_scanBody_86 (v := (7 : Int32)) (by decide) ?_
  refine V.goto (pc := 88) (t := 93) C dX1_scanBody_88 (by decide) ?_
  refine V.sub (L' := [(0, .ref v0), (1, .ref v1), (2, .int v2), (4, .int s0)]) [1, 2, 3, 0] rfl ?_
  exact bX1_scanBody_93 C  hf
def fX1_scanBody_48  (g : PH) (v0 : Nat) (v1 : Nat) (v2 : Int32) (v3 : Int32) (v4 : Int32) : Option (Unit × PH) :=
  if v3 = 0 then (fX1_scanBody_112 g v0 v1 v2 v4) else
  ((fX6_take g v1 2).bind fun q2 =>
  (if q2.1 = (1 : Int32) then (fX1_scanBody_67 q2.2 v0 v1 v2 (1 : Int32)) else
  (fX1_scanBody_67 q2.2 v0 v1 v2 (0 : Int32))))
set_option maxHeartbeats 4000000 in
set_option maxRecDepth 100000 in
theorem bX1_scanBody_48 {K : HK} {E : HE} {r : Unit} {g' : PH}  (C : VC K E 5 cX1_scanBody RX1 none)  {g : PH} {v0 : Nat} {v1 : Nat} {v2 : Int32} {v3 : Int32} {v4 : Int32} (hf : fX1_scanBody_48  g v0 v1 v2 v3 v4 = some (r, g')) : V K E (hRm 5 114 0 0) 5 (hZ K E none g' 0 0) 0 0 (kS K) g 48 [(0, .ref v0), (1, .ref v1), (2, .int v2), (3, .int v3), (4, .int v4)] [] := by
  unfold fX1_scanBody_48 at hf
  refine V.iload_n (pc := 48) C dX1_scanBody_48 3 rfl ?_
  refine V.if_eq (pc := 49) (t := 112) C dX1_scanBody_49 (by decide) (fun c1 => ?_) (fun c1 => ?_)
  · replace hf := ite_t c1 hf
    refine V.sub (L' := [(0, .ref v0), (1, .ref v1), (2, .int v2), (4, .int v4)]) [0, 1, 2, 4] rfl ?_
    exact bX1_scanBody_112 C  hf
  replace hf := ite_f c1 hf
  refine V.aload_n (pc := 52) C dX1_scanBody_52 1 rfl ?_
  refine V.ldcS (pc := 53) C (j := 2) rfl dX1_scanBody_53 ?_
  replace hf := ob_some hf
  obtain ⟨q2, h3, hf⟩ := hf
  refine V.callV0i (pc := 55) C hyX6_take wd_297 (mX6_take (r := q2.1) (g' := q2.2) K.2.1 E (kS K) h3) rfl rfl rfl (oX6_take h3) ⟨Nat.le_of_ble_eq_true rfl, Nat.le_of_ble_eq_true rfl⟩ (Nat.le_of_ble_eq_true rfl) dX1_scanBody_55 ⟨Nat.zero_le _, Nat.zero_le _⟩ rfl ?_
  refine V.iconst (pc := 58) C dX1_scanBody_58 (v := (1 : Int32)) (by decide) ?_
  refine V.icmp_ne (pc := 59) (t := 66) C dX1_scanBody_59 (by decide) (fun c4 => ?_) (fun c4 => ?_)
  · replace hf := ite_f c4 hf
    refine V.iconst (pc := 66) C dX1_scanBody_66 (v := (0 : Int32)) (by decide) ?_
    refine V.sub (L' := [(0, .ref v0), (1, .ref v1), (2, .int v2)]) [0, 1, 2] rfl ?_
    exact bX1_scanBody_67 C  hf
  replace hf := ite_t c4 hf
  refine V.iconst (pc := 62) C dX1_scanBody_62 (v := (1 : Int32)) (by decide) ?_
  refine V.goto (pc := 63) (t := 67) C dX1_scanBody_63 (by decide) ?_
  refine V.sub (L' := [(0, .ref v0), (1, .ref v1), (2, .int v2)]) [0, 1, 2] rfl ?_
  exact bX1_scanBody_67 C  hf
def fX1_scanBody_33  (g : PH) (v0 : Nat) (v1 : Nat) (v2 : Int32) (v3 : Int32) (v4 : Int32) : Option (Unit × PH) :=
  (getR g v0 1 3).bind fun p1 =>
  ((getI g v0 1 0).bind fun x3 =>
  ((fX6_take g v1 1).bind fun q5 =>
  ((stI q5.2 p1 0 x3 q5.1).bind fun g7 =>
  (fX1_scanBody_48 g7 v0 v1 v2 v3 v4))))
set_option maxHeartbeats 4000000 in
set_option maxRecDepth 100000 in
theorem bX1_scanBody_33 {K : HK} {E : HE} {r : Unit} {g' : PH}  (C : VC K E 5 cX1_scanBody RX1 none)  {g : PH} {v0 : Nat} {v1 : Nat} {v2 : Int32} {v3 : Int32} {v4 : Int32} (hf : fX1_scanBody_33  g v0 v1 v2 v3 v4 = some (r, g')) : V K E (hRm 5 114 0 0) 5 (hZ K E none g' 0 0) 0 0 (kS K) g 33 [(0, .ref v0), (1, .ref v1), (2, .int v2), (3, .int v3), (4, .int v4)] [] := by
  unfold fX1_scanBody_33 at hf
  refine V.aload_n (pc := 33) C dX1_scanBody_33 0 rfl ?_
  replace hf := ob_some hf
  obtain ⟨p1, h2, hf⟩ := hf
  refine V.getR (pc := 34) C kX1 (k := 3) (by decide) wd_251 h2 dX1_scanBody_34 ?_
  refine V.aload_n (pc := 37) C dX1_scanBody_37 0 rfl ?_
  replace hf := ob_some hf
  obtain ⟨x3, h4, hf⟩ := hf
  refine V.getI (pc := 38) C kX1 (k := 0) (by decide) wd_246 h4 dX1_scanBody_38 ?_
  refine V.aload_n (pc := 41) C dX1_scanBody_41 1 rfl ?_
  refine V.ldcS (pc := 42) C (j := 1) rfl dX1_scanBody_42 ?_
  replace hf := ob_some hf
  obtain ⟨q5, h6, hf⟩ := hf
  refine V.callV0i (pc := 44) C hyX6_take wd_297 (mX6_take (r := q5.1) (g' := q5.2) K.2.1 E (kS K) h6) rfl rfl rfl (oX6_take h6) ⟨Nat.le_of_ble_eq_true rfl, Nat.le_of_ble_eq_true rfl⟩ (Nat.le_of_ble_eq_true rfl) dX1_scanBody_44 ⟨Nat.zero_le _, Nat.zero_le _⟩ rfl ?_
  replace hf := ob_some hf
  obtain ⟨g7, h8, hf⟩ := hf
  refine V.iast (pc := 47) C h8 dX1_scanBody_47 ?_
  refine V.sub (L' := [(0, .ref v0), (1, .ref v1), (2, .int v2), (3, .int v3), (4, .int v4)]) [0, 1, 2, 3, 4] rfl ?_
  exact bX1_scanBody_48 C  hf
def fX1_scanBody_20  (g : PH) (v0 : Nat) (v1 : Nat) (v2 : Int32) (s0 : Int32) : Option (Unit × PH) :=
  if s0 = 0 then (if v2 = (2 : Int32) then (fX1_scanBody_33 g v0 v1 v2 s0 (0 : Int32)) else
  (fX1_scanBody_48 g v0 v1 v2 s0 (0 : Int32))) else
  (fX1_scanBody_33 g v0 v1 v2 s0 (0 : Int32))
set_option maxHeartbeats 4000000 in
set_option maxRecDepth 100000 in
theorem bX1_scanBody_20 {K : HK} {E : HE} {r : Unit} {g' : PH}  (C : VC K E 5 cX1_scanBody RX1 none)  {g : PH} {v0 : Nat} {v1 : Nat} {v2 : Int32} {s0 : Int32} (hf : fX1_scanBody_20  g v0 v1 v2 s0 = some (r, g')) : V K E (hRm 5 114 0 0) 5 (hZ K E none g' 0 0) 0 0 (kS K) g 20 [(0, .ref v0), (1, .ref v1), (2, .int v2)] [.int s0] := by
  unfold fX1_scanBody_20 at hf
  refine V.istore_n (pc := 20) (L' := [(3, .int s0), (0, .ref v0), (1, .ref v1), (2, .int v2)]) C dX1_scanBody_20 (by decide) rfl ?_
  refine V.iconst (pc := 21) C dX1_scanBody_21 (v := (0 : Int32)) (by decide) ?_
  refine V.istore (pc := 22) (L' := [(4, .int (0 : Int32)), (3, .int s0), (0, .ref v0), (1, .ref v1), (2, .int v2)]) C dX1_scanBody_22 (by decide) rfl ?_
  refine V.iload_n (pc := 24) C dX1_scanBody_24 1 rfl ?_
  refine V.if_ne (pc := 25) (t := 33) C dX1_scanBody_25 (by decide) (fun c1 => ?_) (fun c1 => ?_)
  · replace hf := ite_f c1 hf
    refine V.sub (L' := [(0, .ref v0), (1, .ref v1), (2, .int v2), (3, .int s0), (4, .int (0 : Int32))]) [2, 3, 4, 1, 0] rfl ?_
    exact bX1_scanBody_33 C  hf
  replace hf := ite_t c1 hf
  refine V.iload_n (pc := 28) C dX1_scanBody_28 4 rfl ?_
  refine V.iconst (pc := 29) C dX1_scanBody_29 (v := (2 : Int32)) (by decide) ?_
  refine V.icmp_ne (pc := 30) (t := 48) C dX1_scanBody_30 (by decide) (fun c2 => ?_) (fun c2 => ?_)
  · replace hf := ite_f c2 hf
    refine V.sub (L' := [(0, .ref v0), (1, .ref v1), (2, .int v2), (3, .int s0), (4, .int (0 : Int32))]) [2, 3, 4, 1, 0] rfl ?_
    exact bX1_scanBody_48 C  hf
  replace hf := ite_t c2 hf
  refine V.sub (L' := [(0, .ref v0), (1, .ref v1), (2, .int v2), (3, .int s0), (4, .int (0 : Int32))]) [2, 3, 4, 1, 0] rfl ?_
  exact bX1_scanBody_33 C  hf
def fX1_scanBody_15  (g : PH) (v0 : Nat) (v1 : Nat) (v2 : Int32) : Option (Unit × PH) :=
  fX1_scanBody_20 g v0 v1 v2 (1 : Int32)
set_option maxHeartbeats 4000000 in
set_option maxRecDepth 100000 in
theorem bX1_scanBody_15 {K : HK} {E : HE} {r : Unit} {g' : PH}  (C : VC K E 5 cX1_scanBody RX1 none)  {g : PH} {v0 : Nat} {v1 : Nat} {v2 : Int32} (hf : fX1_scanBody_15  g v0 v1 v2 = some (r, g')) : V K E (hRm 5 114 0 0) 5 (hZ K E none g' 0 0) 0 0 (kS K) g 15 [(0, .ref v0), (1, .ref v1), (2, .int v2)] [] := by
  unfold fX1_scanBody_15 at hf
  refine V.iconst (pc := 15) C dX1_scanBody_15 (v := (1 : Int32)) (by decide) ?_
  refine V.goto (pc := 16) (t := 20) C dX1_scanBody_16 (by decide) ?_
  refine V.sub (L' := [(0, .ref v0), (1, .ref v1), (2, .int v2)]) [0, 1, 2] rfl ?_
  exact bX1_scanBody_20 C  hf
def fX1_scanBody (g : PH) (a0 : Nat) (a1 : Nat) (a2 : Int32) : Option (Unit × PH) :=
  okb (isO g a0 1) (if a2 = (5 : Int32) then (some ((), g)) else
  (if a2 = 0 then (fX1_scanBody_15 g a0 a1 a2) else
  (if a2 = (1 : Int32) then (fX1_scanBody_15 g a0 a1 a2) else
  (fX1_scanBody_20 g a0 a1 a2 (0 : Int32)))))
theorem oX1_scanBody {g : PH} {a0 : Nat} {a1 : Nat} {a2 : Int32} {q : (Unit × PH)} (h : fX1_scanBody g a0 a1 a2 = some q) : isO g a0 1 = true := by unfold fX1_scanBody at h; exact (okb_some h).1
theorem hyX1_scanBody : hMet yX1_scanBody RX1 cX1_scanBody 5 none 2 := ⟨wd_392, wd_391, ws_3, wd_8, rfl, by decide +kernel, by decide +kernel, by decide +kernel⟩
set_option maxHeartbeats 4000000 in
set_option maxRecDepth 100000 in
theorem mX1_scanBody (l : Launch) (E : HE) (sz : Nat) {g g' : PH} {a0 : Nat} {a1 : Nat} {a2 : Int32} {r : Unit} (hf : fX1_scanBody g a0 a1 a2 = some (r, g')) : hM l E yX1_scanBody cX1_scanBody 5 none 5 114 0 0 sz g [.ref a0, .ref a1, .int a2] none g' := by
  refine hM.of (by decide) (Nat.le_of_ble_eq_true rfl) (fun K hl C hin hsz => ?_)
  subst hl
  subst hsz
  have C : VC K E 5 cX1_scanBody RX1 none := C
  unfold fX1_scanBody at hf
  replace hf := okb_some hf
  obtain ⟨ho, hf⟩ := hf
  refine V.start (L' := [(0, .ref a0), (1, .ref a1), (2, .int a2)]) rfl ?_
  refine V.iload_n (pc := 0) C dX1_scanBody_0 2 rfl ?_
  refine V.iconst (pc := 1) C dX1_scanBody_1 (v := (5 : Int32)) (by decide) ?_
  refine V.icmp_ne (pc := 2) (t := 6) C dX1_scanBody_2 (by decide) (fun c1 => ?_) (fun c1 => ?_)
  · replace hf := ite_f c1 hf
    refine V.iload_n (pc := 6) C dX1_scanBody_6 2 rfl ?_
    refine V.if_eq (pc := 7) (t := 15) C dX1_scanBody_7 (by decide) (fun c2 => ?_) (fun c2 => ?_)
    · replace hf := ite_t c2 hf
      refine V.sub (L' := [(0, .ref a0), (1, .ref a1), (2, .int a2)]) [0, 1, 2] rfl ?_
      exact bX1_scanBody_15 C  hf
    replace hf := ite_f c2 hf
    refine V.iload_n (pc := 10) C dX1_scanBody_10 2 rfl ?_
    refine V.iconst (pc := 11) C dX1_scanBody_11 (v := (1 : Int32)) (by decide) ?_
    refine V.icmp_ne (pc := 12) (t := 19) C dX1_scanBody_12 (by decide) (fun c3 => ?_) (fun c3 => ?_)
    · replace hf := ite_f c3 hf
      refine V.iconst (pc := 19) C dX1_scanBody_19 (v := (0 : Int32)) (by decide) ?_
      refine V.sub (L' := [(0, .ref a0), (1, .ref a1), (2, .int a2)]) [0, 1, 2] rfl ?_
      exact bX1_scanBody_20 C  hf
    replace hf := ite_t c3 hf
    refine V.sub (L' := [(0, .ref a0), (1, .ref a1), (2, .int a2)]) [0, 1, 2] rfl ?_
    exact bX1_scanBody_15 C  hf
  replace hf := ite_t c1 hf
  obtain ⟨f1, f2⟩ := fin2 hf
  clear hf
  subst f1
  subst f2
  exact V.vret (pc := 5) C rfl dX1_scanBody_5
theorem dX1_scanRule_0 : decode cX1_scanRule 0 = .ok (.aload_n 1, 1) := by decide +kernel
theorem dX1_scanRule_1 : decode cX1_scanRule 1 = .ok (.invokevirtual 60, 3) := by decide +kernel
theorem dX1_scanRule_4 : decode cX1_scanRule 4 = .ok (.istore_n 2, 1) := by decide +kernel
theorem dX1_scanRule_5 : decode cX1_scanRule 5 = .ok (.aload_n 1, 1) := by decide +kernel
theorem dX1_scanRule_6 : decode cX1_scanRule 6 = .ok (.ldc 64, 2) := by decide +kernel
theorem dX1_scanRule_8 : decode cX1_scanRule 8 = .ok (.invokevirtual 56, 3) := by decide +kernel
theorem dX1_scanRule_11 : decode cX1_scanRule 11 = .ok (.istore_n 3, 1) := by decide +kernel
theorem dX1_scanRule_12 : decode cX1_scanRule 12 = .ok (.iload_n 3, 1) := by decide +kernel
theorem dX1_scanRule_13 : decode cX1_scanRule 13 = .ok (.iconst (-1), 1) := by decide +kernel
theorem dX1_scanRule_14 : decode cX1_scanRule 14 = .ok (.if_icmp .ne 4, 3) := by decide +kernel
theorem dX1_scanRule_17 : decode cX1_scanRule 17 = .ok (.return_, 1) := by decide +kernel
theorem dX1_scanRule_18 : decode cX1_scanRule 18 = .ok (.aload_n 0, 1) := by decide +kernel
theorem dX1_scanRule_19 : decode cX1_scanRule 19 = .ok (.getfield 9, 3) := by decide +kernel
theorem dX1_scanRule_22 : decode cX1_scanRule 22 = .ok (.iconst 4, 1) := by decide +kernel
theorem dX1_scanRule_23 : decode cX1_scanRule 23 = .ok (.if_icmp .lt 10, 3) := by decide +kernel
theorem dX1_scanRule_26 : decode cX1_scanRule 26 = .ok (.aload_n 1, 1) := by decide +kernel
theorem dX1_scanRule_27 : decode cX1_scanRule 27 = .ok (.iload_n 2, 1) := by decide +kernel
theorem dX1_scanRule_28 : decode cX1_scanRule 28 = .ok (.iconst 2, 1) := by decide +kernel
theorem dX1_scanRule_29 : decode cX1_scanRule 29 = .ok (.invokevirtual 66, 3) := by decide +kernel
theorem dX1_scanRule_32 : decode cX1_scanRule 32 = .ok (.return_, 1) := by decide +kernel
theorem dX1_scanRule_33 : decode cX1_scanRule 33 = .ok (.aload_n 0, 1) := by decide +kernel
theorem dX1_scanRule_34 : decode cX1_scanRule 34 = .ok (.getfield 9, 3) := by decide +kernel
theorem dX1_scanRule_37 : decode cX1_scanRule 37 = .ok (.ifCond .le 46, 3) := by decide +kernel
theorem dX1_scanRule_40 : decode cX1_scanRule 40 = .ok (.iload_n 3, 1) := by decide +kernel
theorem dX1_scanRule_41 : decode cX1_scanRule 41 = .ok (.iconst 4, 1) := by decide +kernel
theorem dX1_scanRule_42 : decode cX1_scanRule 42 = .ok (.if_icmp .ge 34, 3) := by decide +kernel
theorem dX1_scanRule_45 : decode cX1_scanRule 45 = .ok (.aload_n 0, 1) := by decide +kernel
theorem dX1_scanRule_46 : decode cX1_scanRule 46 = .ok (.getfield 19, 3) := by decide +kernel
theorem dX1_scanRule_49 : decode cX1_scanRule 49 = .ok (.iconst 0, 1) := by decide +kernel
theorem dX1_scanRule_50 : decode cX1_scanRule 50 = .ok (.iaload, 1) := by decide +kernel
theorem dX1_scanRule_51 : decode cX1_scanRule 51 = .ok (.iconst 4, 1) := by decide +kernel
theorem dX1_scanRule_52 : decode cX1_scanRule 52 = .ok (.if_icmp .eq 24, 3) := by decide +kernel
theorem dX1_scanRule_55 : decode cX1_scanRule 55 = .ok (.aload_n 0, 1) := by decide +kernel
theorem dX1_scanRule_56 : decode cX1_scanRule 56 = .ok (.getfield 19, 3) := by decide +kernel
theorem dX1_scanRule_59 : decode cX1_scanRule 59 = .ok (.iconst 0, 1) := by decide +kernel
theorem dX1_scanRule_60 : decode cX1_scanRule 60 = .ok (.iaload, 1) := by decide +kernel
theorem dX1_scanRule_61 : decode cX1_scanRule 61 = .ok (.iconst 5, 1) := by decide +kernel
theorem dX1_scanRule_62 : decode cX1_scanRule 62 = .ok (.if_icmp .eq 14, 3) := by decide +kernel
theorem dX1_scanRule_65 : decode cX1_scanRule 65 = .ok (.aload_n 0, 1) := by decide +kernel
theorem dX1_scanRule_66 : decode cX1_scanRule 66 = .ok (.getfield 19, 3) := by decide +kernel
theorem dX1_scanRule_69 : decode cX1_scanRule 69 = .ok (.iconst 0, 1) := by decide +kernel
theorem dX1_scanRule_70 : decode cX1_scanRule 70 = .ok (.iaload, 1) := by decide +kernel
theorem dX1_scanRule_71 : decode cX1_scanRule 71 = .ok (.bipush 6, 2) := by decide +kernel
theorem dX1_scanRule_73 : decode cX1_scanRule 73 = .ok (.if_icmp .ne 10, 3) := by decide +kernel
theorem dX1_scanRule_76 : decode cX1_scanRule 76 = .ok (.aload_n 1, 1) := by decide +kernel
theorem dX1_scanRule_77 : decode cX1_scanRule 77 = .ok (.iload_n 2, 1) := by decide +kernel
theorem dX1_scanRule_78 : decode cX1_scanRule 78 = .ok (.iconst 3, 1) := by decide +kernel
theorem dX1_scanRule_79 : decode cX1_scanRule 79 = .ok (.invokevirtual 66, 3) := by decide +kernel
theorem dX1_scanRule_82 : decode cX1_scanRule 82 = .ok (.return_, 1) := by decide +kernel
theorem dX1_scanRule_83 : decode cX1_scanRule 83 = .ok (.aload_n 0, 1) := by decide +kernel
theorem dX1_scanRule_84 : decode cX1_scanRule 84 = .ok (.getfield 19, 3) := by decide +kernel
theorem dX1_scanRule_87 : decode cX1_scanRule 87 = .ok (.aload_n 0, 1) := by decide +kernel
theorem dX1_scanRule_88 : decode cX1_scanRule 88 = .ok (.getfield 9, 3) := by decide +kernel
theorem dX1_scanRule_91 : decode cX1_scanRule 91 = .ok (.iload_n 3, 1) := by decide +kernel
theorem dX1_scanRule_92 : decode cX1_scanRule 92 = .ok (.iastore, 1) := by decide +kernel
theorem dX1_scanRule_93 : decode cX1_scanRule 93 = .ok (.aload_n 0, 1) := by decide +kernel
theorem dX1_scanRule_94 : decode cX1_scanRule 94 = .ok (.aload_n 1, 1) := by decide +kernel
theorem dX1_scanRule_95 : decode cX1_scanRule 95 = .ok (.iload_n 3, 1) := by decide +kernel
theorem dX1_scanRule_96 : decode cX1_scanRule 96 = .ok (.invokevirtual 70, 3) := by decide +kernel
theorem dX1_scanRule_99 : decode cX1_scanRule 99 = .ok (.aload_n 0, 1) := by decide +kernel
theorem dX1_scanRule_100 : decode cX1_scanRule 100 = .ok (.aload_n 0, 1) := by decide +kernel
theorem dX1_scanRule_101 : decode cX1_scanRule 101 = .ok (.getfield 15, 3) := by decide +kernel
theorem dX1_scanRule_104 : decode cX1_scanRule 104 = .ok (.ifCond .ne 24, 3) := by decide +kernel
theorem dX1_scanRule_107 : decode cX1_scanRule 107 = .ok (.iload_n 3, 1) := by decide +kernel
theorem dX1_scanRule_108 : decode cX1_scanRule 108 = .ok (.iconst 1, 1) := by decide +kernel
theorem dX1_scanRule_109 : decode cX1_scanRule 109 = .ok (.if_icmp .eq 19, 3) := by decide +kernel
theorem dX1_scanRule_112 : decode cX1_scanRule 112 = .ok (.iload_n 3, 1) := by decide +kernel
theorem dX1_scanRule_113 : decode cX1_scanRule 113 = .ok (.iconst 2, 1) := by decide +kernel
theorem dX1_scanRule_114 : decode cX1_scanRule 114 = .ok (.if_icmp .eq 14, 3) := by decide +kernel
theorem dX1_scanRule_117 : decode cX1_scanRule 117 = .ok (.iload_n 3, 1) := by decide +kernel
theorem dX1_scanRule_118 : decode cX1_scanRule 118 = .ok (.iconst 5, 1) := by decide +kernel
theorem dX1_scanRule_119 : decode cX1_scanRule 119 = .ok (.if_icmp .eq 9, 3) := by decide +kernel
theorem dX1_scanRule_122 : decode cX1_scanRule 122 = .ok (.iload_n 3, 1) := by decide +kernel
theorem dX1_scanRule_123 : decode cX1_scanRule 123 = .ok (.bipush 6, 2) := by decide +kernel
theorem dX1_scanRule_125 : decode cX1_scanRule 125 = .ok (.if_icmp .ne 7, 3) := by decide +kernel
theorem dX1_scanRule_128 : decode cX1_scanRule 128 = .ok (.iconst 1, 1) := by decide +kernel
theorem dX1_scanRule_129 : decode cX1_scanRule 129 = .ok (.goto 4, 3) := by decide +kernel
theorem dX1_scanRule_132 : decode cX1_scanRule 132 = .ok (.iconst 0, 1) := by decide +kernel
theorem dX1_scanRule_133 : decode cX1_scanRule 133 = .ok (.putfield 15, 3) := by decide +kernel
theorem dX1_scanRule_136 : decode cX1_scanRule 136 = .ok (.aload_n 0, 1) := by decide +kernel
theorem dX1_scanRule_137 : decode cX1_scanRule 137 = .ok (.dup, 1) := by decide +kernel
theorem dX1_scanRule_138 : decode cX1_scanRule 138 = .ok (.getfield 9, 3) := by decide +kernel
theorem dX1_scanRule_141 : decode cX1_scanRule 141 = .ok (.iconst 1, 1) := by decide +kernel
theorem dX1_scanRule_142 : decode cX1_scanRule 142 = .ok (.iadd, 1) := by decide +kernel
theorem dX1_scanRule_143 : decode cX1_scanRule 143 = .ok (.putfield 9, 3) := by decide +kernel
theorem dX1_scanRule_146 : decode cX1_scanRule 146 = .ok (.return_, 1) := by decide +kernel
def fX1_scanRule_76  (g : PH) (v1 : Nat) (v2 : Int32) : Option (Unit × PH) :=
  (fX6_blame g v1 v2 (3 : Int32)).bind fun q1 =>
  (some ((), q1.2))
set_option maxHeartbeats 4000000 in
set_option maxRecDepth 100000 in
theorem bX1_scanRule_76 {K : HK} {E : HE} {r : Unit} {g' : PH}  (C : VC K E 4 cX1_scanRule RX1 none)  {g : PH} {v1 : Nat} {v2 : Int32} (hf : fX1_scanRule_76  g v1 v2 = some (r, g')) : V K E (hRm 6 138 0 0) 4 (hZ K E none g' 0 0) 0 0 (kS K) g 76 [(1, .ref v1), (2, .int v2)] [] := by
  unfold fX1_scanRule_76 at hf
  refine V.aload_n (pc := 76) C dX1_scanRule_76 0 rfl ?_
  refine V.iload_n (pc := 77) C dX1_scanRule_77 1 rfl ?_
  refine V.iconst (pc := 78) C dX1_scanRule_78 (v := (3 : Int32)) (by decide) ?_
  replace hf := ob_some hf
  obtain ⟨q1, h2, hf⟩ := hf
  refine V.callV0v (pc := 79) C hyX6_blame wd_388 (mX6_blame (r := q1.1) (g' := q1.2) K.2.1 E (kS K) h2) rfl rfl rfl (oX6_blame h2) ⟨Nat.le_of_ble_eq_true rfl, Nat.le_of_ble_eq_true rfl⟩ (Nat.le_of_ble_eq_true rfl) dX1_scanRule_79 ⟨Nat.zero_le _, Nat.zero_le _⟩ rfl ?_
  obtain ⟨f1, f2⟩ := fin2 hf
  clear hf
  subst f1
  subst f2
  exact V.vret (pc := 82) C rfl dX1_scanRule_82
def fX1_scanRule_128  (g : PH) (v0 : Nat) (s0 : Nat) : Option (Unit × PH) :=
  (putV g s0 1 1 (.int (1 : Int32))).bind fun g1 =>
  ((getI g1 v0 1 0).bind fun x3 =>
  ((putV g1 v0 1 0 (.int (x3 + (1 : Int32)))).bind fun g5 =>
  (some ((), g5))))
set_option maxHeartbeats 4000000 in
set_option maxRecDepth 100000 in
theorem bX1_scanRule_128 {K : HK} {E : HE} {r : Unit} {g' : PH}  (C : VC K E 4 cX1_scanRule RX1 none)  {g : PH} {v0 : Nat} {s0 : Nat} (hf : fX1_scanRule_128  g v0 s0 = some (r, g')) : V K E (hRm 6 138 0 0) 4 (hZ K E none g' 0 0) 0 0 (kS K) g 128 [(0, .ref v0)] [.ref s0] := by
  unfold fX1_scanRule_128 at hf
  refine V.iconst (pc := 128) C dX1_scanRule_128 (v := (1 : Int32)) (by decide) ?_
  refine V.goto (pc := 129) (t := 133) C dX1_scanRule_129 (by decide) ?_
  replace hf := ob_some hf
  obtain ⟨g1, h2, hf⟩ := hf
  refine V.putX (pc := 133) C kX1 (k := 1) (by decide) wd_248 rfl rfl rfl h2 dX1_scanRule_133 ?_
  refine V.aload_n (pc := 136) C dX1_scanRule_136 0 rfl ?_
  refine V.dup (pc := 137) C dX1_scanRule_137 rfl ?_
  replace hf := ob_some hf
  obtain ⟨x3, h4, hf⟩ := hf
  refine V.getI (pc := 138) C kX1 (k := 0) (by decide) wd_246 h4 dX1_scanRule_138 ?_
  refine V.iconst (pc := 141) C dX1_scanRule_141 (v := (1 : Int32)) (by decide) ?_
  refine V.iadd (pc := 142) C dX1_scanRule_142 ?_
  replace hf := ob_some hf
  obtain ⟨g5, h6, hf⟩ := hf
  refine V.putX (pc := 143) C kX1 (k := 0) (by decide) wd_246 rfl rfl rfl h6 dX1_scanRule_143 ?_
  obtain ⟨f1, f2⟩ := fin2 hf
  clear hf
  subst f1
  subst f2
  exact V.vret (pc := 146) C rfl dX1_scanRule_146
def fX1_scanRule_83  (g : PH) (v0 : Nat) (v1 : Nat) (v3 : Int32) : Option (Unit × PH) :=
  (getR g v0 1 2).bind fun p1 =>
  ((getI g v0 1 0).bind fun x3 =>
  ((stI g p1 0 x3 v3).bind fun g5 =>
  ((fX1_scanBody g5 v0 v1 v3).bind fun q7 =>
  ((getI q7.2 v0 1 1).bind fun x9 =>
  (if x9 = 0 then (if v3 = (1 : Int32) then (fX1_scanRule_128 q7.2 v0 v0) else
  (if v3 = (2 : Int32) then (fX1_scanRule_128 q7.2 v0 v0) else
  (if v3 = (5 : Int32) then (fX1_scanRule_128 q7.2 v0 v0) else
  (if v3 = (6 : Int32) then (fX1_scanRule_128 q7.2 v0 v0) else
  ((putV q7.2 v0 1 1 (.int (0 : Int32))).bind fun g16 =>
  ((getI g16 v0 1 0).bind fun x18 =>
  ((putV g16 v0 1 0 (.int (x18 + (1 : Int32)))).bind fun g20 =>
  (some ((), g20))))))))) else
  (fX1_scanRule_128 q7.2 v0 v0))))))
set_option maxHeartbeats 4000000 in
set_option maxRecDepth 100000 in
theorem bX1_scanRule_83 {K : HK} {E : HE} {r : Unit} {g' : PH}  (C : VC K E 4 cX1_scanRule RX1 none)  {g : PH} {v0 : Nat} {v1 : Nat} {v3 : Int32} (hf : fX1_scanRule_83  g v0 v1 v3 = some (r, g')) : V K E (hRm 6 138 0 0) 4 (hZ K E none g' 0 0) 0 0 (kS K) g 83 [(0, .ref v0), (1, .ref v1), (3, .int v3)] [] := by
  unfold fX1_scanRule_83 at hf
  refine V.aload_n (pc := 83) C dX1_scanRule_83 0 rfl ?_
  replace hf := ob_some hf
  obtain ⟨p1, h2, hf⟩ := hf
  refine V.getR (pc := 84) C kX1 (k := 2) (by decide) wd_250 h2 dX1_scanRule_84 ?_
  refine V.aload_n (pc := 87) C dX1_scanRule_87 0 rfl ?_
  replace hf := ob_some hf
  obtain ⟨x3, h4, hf⟩ := hf
  refine V.getI (pc := 88) C kX1 (k := 0) (by decide) wd_246 h4 dX1_scanRule_88 ?_
  refine V.iload_n (pc := 91) C dX1_scanRule_91 2 rfl ?_
  replace hf := ob_some hf
  obtain ⟨g5, h6, hf⟩ := hf
  refine V.iast (pc := 92) C h6 dX1_scanRule_92 ?_
  refine V.aload_n (pc := 93) C dX1_scanRule_93 0 rfl ?_
  refine V.aload_n (pc := 94) C dX1_scanRule_94 1 rfl ?_
  refine V.iload_n (pc := 95) C dX1_scanRule_95 2 rfl ?_
  replace hf := ob_some hf
  obtain ⟨q7, h8, hf⟩ := hf
  refine V.callV0v (pc := 96) C hyX1_scanBody wd_389 (mX1_scanBody (r := q7.1) (g' := q7.2) K.2.1 E (kS K) h8) rfl rfl rfl (oX1_scanBody h8) ⟨Nat.le_of_ble_eq_true rfl, Nat.le_of_ble_eq_true rfl⟩ (Nat.le_of_ble_eq_true rfl) dX1_scanRule_96 ⟨Nat.zero_le _, Nat.zero_le _⟩ rfl ?_
  refine V.aload_n (pc := 99) C dX1_scanRule_99 0 rfl ?_
  refine V.aload_n (pc := 100) C dX1_scanRule_100 0 rfl ?_
  replace hf := ob_some hf
  obtain ⟨x9, h10, hf⟩ := hf
  refine V.getI (pc := 101) C kX1 (k := 1) (by decide) wd_248 h10 dX1_scanRule_101 ?_
  refine V.if_ne (pc := 104) (t := 128) C dX1_scanRule_104 (by decide) (fun c11 => ?_) (fun c11 => ?_)
  · replace hf := ite_f c11 hf
    refine V.sub (L' := [(0, .ref v0)]) [0] rfl ?_
    exact bX1_scanRule_128 C  hf
  replace hf := ite_t c11 hf
  refine V.iload_n (pc := 107) C dX1_scanRule_107 2 rfl ?_
  refine V.iconst (pc := 108) C dX1_scanRule_108 (v := (1 : Int32)) (by decide) ?_
  refine V.icmp_eq (pc := 109) (t := 128) C dX1_scanRule_109 (by decide) (fun c12 => ?_) (fun c12 => ?_)
  · replace hf := ite_t c12 hf
    refine V.sub (L' := [(0, .ref v0)]) [0] rfl ?_
    exact bX1_scanRule_128 C  hf
  replace hf := ite_f c12 hf
  refine V.iload_n (pc := 112) C dX1_scanRule_112 2 rfl ?_
  refine V.iconst (pc := 113) C dX1_scanRule_113 (v := (2 : Int32)) (by decide) ?_
  refine V.icmp_eq (pc := 114) (t := 128) C dX1_scanRule_114 (by decide) (fun c13 => ?_) (fun c13 => ?_)
  · replace hf := ite_t c13 hf
    refine V.sub (L' := [(0, .ref v0)]) [0] rfl ?_
    exact bX1_scanRule_128 C  hf
  replace hf := ite_f c13 hf
  refine V.iload_n (pc := 117) C dX1_scanRule_117 2 rfl ?_
  refine V.iconst (pc := 118) C dX1_scanRule_118 (v := (5 : Int32)) (by decide) ?_
  refine V.icmp_eq (pc := 119) (t := 128) C dX1_scanRule_119 (by decide) (fun c14 => ?_) (fun c14 => ?_)
  · replace hf := ite_t c14 hf
    refine V.sub (L' := [(0, .ref v0)]) [0] rfl ?_
    exact bX1_scanRule_128 C  hf
  replace hf := ite_f c14 hf
  refine V.iload_n (pc := 122) C dX1_scanRule_122 2 rfl ?_
  refine V.bipush (pc := 123) C dX1_scanRule_123 (v := (6 : Int32)) (by decide) ?_
  refine V.icmp_ne (pc := 125) (t := 132) C dX1_scanRule_125 (by decide) (fun c15 => ?_) (fun c15 => ?_)
  · replace hf := ite_f c15 hf
    refine V.iconst (pc := 132) C dX1_scanRule_132 (v := (0 : Int32)) (by decide) ?_
    replace hf := ob_some hf
    obtain ⟨g16, h17, hf⟩ := hf
    refine V.putX (pc := 133) C kX1 (k := 1) (by decide) wd_248 rfl rfl rfl h17 dX1_scanRule_133 ?_
    refine V.aload_n (pc := 136) C dX1_scanRule_136 0 rfl ?_
    refine V.dup (pc := 137) C dX1_scanRule_137 rfl ?_
    replace hf := ob_some hf
    obtain ⟨x18, h19, hf⟩ := hf
    refine V.getI (pc := 138) C kX1 (k := 0) (by decide) wd_246 h19 dX1_scanRule_138 ?_
    refine V.iconst (pc := 141) C dX1_scanRule_141 (v := (1 : Int32)) (by decide) ?_
    refine V.iadd (pc := 142) C dX1_scanRule_142 ?_
    replace hf := ob_some hf
    obtain ⟨g20, h21, hf⟩ := hf
    refine V.putX (pc := 143) C kX1 (k := 0) (by decide) wd_246 rfl rfl rfl h21 dX1_scanRule_143 ?_
    obtain ⟨f1, f2⟩ := fin2 hf
    clear hf
    subst f1
    subst f2
    exact V.vret (pc := 146) C rfl dX1_scanRule_146
  replace hf := ite_t c15 hf
  refine V.sub (L' := [(0, .ref v0)]) [0] rfl ?_
  exact bX1_scanRule_128 C  hf
def fX1_scanRule (g : PH) (a0 : Nat) (a1 : Nat) : Option (Unit × PH) :=
  okb (isO g a0 1) ((fX6_nextPlace g a1).bind fun q1 =>
  ((fX6_take q1.2 a1 0).bind fun q3 =>
  (if q3.1 = (-1 : Int32) then (some ((), q3.2)) else
  ((getI q3.2 a0 1 0).bind fun x6 =>
  (if x6 < (4 : Int32) then ((getI q3.2 a0 1 0).bind fun x9 =>
  (if x9 ≤ 0 then (fX1_scanRule_83 q3.2 a0 a1 q3.1) else
  (if (4 : Int32) ≤ q3.1 then (fX1_scanRule_76 q3.2 a1 q1.1) else
  ((getR q3.2 a0 1 2).bind fun p13 =>
  ((ldI q3.2 p13 0 (0 : Int32)).bind fun x15 =>
  (if x15 = (4 : Int32) then (fX1_scanRule_76 q3.2 a1 q1.1) else
  ((getR q3.2 a0 1 2).bind fun p18 =>
  ((ldI q3.2 p18 0 (0 : Int32)).bind fun x20 =>
  (if x20 = (5 : Int32) then (fX1_scanRule_76 q3.2 a1 q1.1) else
  ((getR q3.2 a0 1 2).bind fun p23 =>
  ((ldI q3.2 p23 0 (0 : Int32)).bind fun x25 =>
  (if x25 = (6 : Int32) then (fX1_scanRule_76 q3.2 a1 q1.1) else
  (fX1_scanRule_83 q3.2 a0 a1 q3.1))))))))))))) else
  ((fX6_blame q3.2 a1 q1.1 (2 : Int32)).bind fun q28 =>
  (some ((), q28.2))))))))
theorem oX1_scanRule {g : PH} {a0 : Nat} {a1 : Nat} {q : (Unit × PH)} (h : fX1_scanRule g a0 a1 = some q) : isO g a0 1 = true := by unfold fX1_scanRule at h; exact (okb_some h).1
theorem hyX1_scanRule : hMet yX1_scanRule RX1 cX1_scanRule 4 none 1 := ⟨wd_287, wd_286, ws_2, wd_8, rfl, by decide +kernel, by decide +kernel, by decide +kernel⟩
set_option maxHeartbeats 4000000 in
set_option maxRecDepth 100000 in
theorem mX1_scanRule (l : Launch) (E : HE) (sz : Nat) {g g' : PH} {a0 : Nat} {a1 : Nat} {r : Unit} (hf : fX1_scanRule g a0 a1 = some (r, g')) : hM l E yX1_scanRule cX1_scanRule 4 none 6 138 0 0 sz g [.ref a0, .ref a1] none g' := by
  refine hM.of (by decide) (Nat.le_of_ble_eq_true rfl) (fun K hl C hin hsz => ?_)
  subst hl
  subst hsz
  have C : VC K E 4 cX1_scanRule RX1 none := C
  unfold fX1_scanRule at hf
  replace hf := okb_some hf
  obtain ⟨ho, hf⟩ := hf
  refine V.start (L' := [(0, .ref a0), (1, .ref a1)]) rfl ?_
  refine V.aload_n (pc := 0) C dX1_scanRule_0 1 rfl ?_
  replace hf := ob_some hf
  obtain ⟨q1, h2, hf⟩ := hf
  refine V.callV0i (pc := 1) C hyX6_nextPlace wd_288 (mX6_nextPlace (r := q1.1) (g' := q1.2) K.2.1 E (kS K) h2) rfl rfl rfl (oX6_nextPlace h2) ⟨Nat.le_of_ble_eq_true rfl, Nat.le_of_ble_eq_true rfl⟩ (Nat.le_of_ble_eq_true rfl) dX1_scanRule_1 ⟨Nat.zero_le _, Nat.zero_le _⟩ rfl ?_
  refine V.istore_n (pc := 4) (L' := [(2, .int q1.1), (0, .ref a0), (1, .ref a1)]) C dX1_scanRule_4 (by decide) rfl ?_
  refine V.aload_n (pc := 5) C dX1_scanRule_5 2 rfl ?_
  refine V.ldcS (pc := 6) C (j := 0) rfl dX1_scanRule_6 ?_
  replace hf := ob_some hf
  obtain ⟨q3, h4, hf⟩ := hf
  refine V.callV0i (pc := 8) C hyX6_take wd_297 (mX6_take (r := q3.1) (g' := q3.2) K.2.1 E (kS K) h4) rfl rfl rfl (oX6_take h4) ⟨Nat.le_of_ble_eq_true rfl, Nat.le_of_ble_eq_true rfl⟩ (Nat.le_of_ble_eq_true rfl) dX1_scanRule_8 ⟨Nat.zero_le _, Nat.zero_le _⟩ rfl ?_
  refine V.istore_n (pc := 11) (L' := [(3, .int q3.1), (2, .int q1.1), (0, .ref a0), (1, .ref a1)]) C dX1_scanRule_11 (by decide) rfl ?_
  refine V.iload_n (pc := 12) C dX1_scanRule_12 0 rfl ?_
  refine V.iconst (pc := 13) C dX1_scanRule_13 (v := (-1 : Int32)) (by decide) ?_
  refine V.icmp_ne (pc := 14) (t := 18) C dX1_scanRule_14 (by decide) (fun c5 => ?_) (fun c5 => ?_)
  · replace hf := ite_f c5 hf
    refine V.aload_n (pc := 18) C dX1_scanRule_18 2 rfl ?_
    replace hf := ob_some hf
    obtain ⟨x6, h7, hf⟩ := hf
    refine V.getI (pc := 19) C kX1 (k := 0) (by decide) wd_246 h7 dX1_scanRule_19 ?_
    refine V.iconst (pc := 22) C dX1_scanRule_22 (v := (4 : Int32)) (by decide) ?_
    refine V.icmp_lt (pc := 23) (t := 33) C dX1_scanRule_23 (by decide) (fun c8 => ?_) (fun c8 => ?_)
    · replace hf := ite_t c8 hf
      refine V.aload_n (pc := 33) C dX1_scanRule_33 2 rfl ?_
      replace hf := ob_some hf
      obtain ⟨x9, h10, hf⟩ := hf
      refine V.getI (pc := 34) C kX1 (k := 0) (by decide) wd_246 h10 dX1_scanRule_34 ?_
      refine V.if_le (pc := 37) (t := 83) C dX1_scanRule_37 (by decide) (fun c11 => ?_) (fun c11 => ?_)
      · replace hf := ite_t c11 hf
        refine V.sub (L' := [(0, .ref a0), (1, .ref a1), (3, .int q3.1)]) [2, 3, 0] rfl ?_
        exact bX1_scanRule_83 C  hf
      replace hf := ite_f c11 hf
      refine V.iload_n (pc := 40) C dX1_scanRule_40 0 rfl ?_
      refine V.iconst (pc := 41) C dX1_scanRule_41 (v := (4 : Int32)) (by decide) ?_
      refine V.icmp_ge (pc := 42) (t := 76) C dX1_scanRule_42 (by decide) (fun c12 => ?_) (fun c12 => ?_)
      · replace hf := ite_t c12 hf
        refine V.sub (L' := [(1, .ref a1), (2, .int q1.1)]) [3, 1] rfl ?_
        exact bX1_scanRule_76 C  hf
      replace hf := ite_f c12 hf
      refine V.aload_n (pc := 45) C dX1_scanRule_45 2 rfl ?_
      replace hf := ob_some hf
      obtain ⟨p13, h14, hf⟩ := hf
      refine V.getR (pc := 46) C kX1 (k := 2) (by decide) wd_250 h14 dX1_scanRule_46 ?_
      refine V.iconst (pc := 49) C dX1_scanRule_49 (v := (0 : Int32)) (by decide) ?_
      replace hf := ob_some hf
      obtain ⟨x15, h16, hf⟩ := hf
      refine V.iald (pc := 50) C h16 dX1_scanRule_50 ?_
      refine V.iconst (pc := 51) C dX1_scanRule_51 (v := (4 : Int32)) (by decide) ?_
      refine V.icmp_eq (pc := 52) (t := 76) C dX1_scanRule_52 (by decide) (fun c17 => ?_) (fun c17 => ?_)
      · replace hf := ite_t c17 hf
        refine V.sub (L' := [(1, .ref a1), (2, .int q1.1)]) [3, 1] rfl ?_
        exact bX1_scanRule_76 C  hf
      replace hf := ite_f c17 hf
      refine V.aload_n (pc := 55) C dX1_scanRule_55 2 rfl ?_
      replace hf := ob_some hf
      obtain ⟨p18, h19, hf⟩ := hf
      refine V.getR (pc := 56) C kX1 (k := 2) (by decide) wd_250 h19 dX1_scanRule_56 ?_
      refine V.iconst (pc := 59) C dX1_scanRule_59 (v := (0 : Int32)) (by decide) ?_
      replace hf := ob_some hf
      obtain ⟨x20, h21, hf⟩ := hf
      refine V.iald (pc := 60) C h21 dX1_scanRule_60 ?_
      refine V.iconst (pc := 61) C dX1_scanRule_61 (v := (5 : Int32)) (by decide) ?_
      refine V.icmp_eq (pc := 62) (t := 76) C dX1_scanRule_62 (by decide) (fun c22 => ?_) (fun c22 => ?_)
      · replace hf := ite_t c22 hf
        refine V.sub (L' := [(1, .ref a1), (2, .int q1.1)]) [3, 1] rfl ?_
        exact bX1_scanRule_76 C  hf
      replace hf := ite_f c22 hf
      refine V.aload_n (pc := 65) C dX1_scanRule_65 2 rfl ?_
      replace hf := ob_some hf
      obtain ⟨p23, h24, hf⟩ := hf
      refine V.getR (pc := 66) C kX1 (k := 2) (by decide) wd_250 h24 dX1_scanRule_66 ?_
      refine V.iconst (pc := 69) C dX1_scanRule_69 (v := (0 : Int32)) (by decide) ?_
      replace hf := ob_some hf
      obtain ⟨x25, h26, hf⟩ := hf
      refine V.iald (pc := 70) C h26 dX1_scanRule_70 ?_
      refine V.bipush (pc := 71) C dX1_scanRule_71 (v := (6 : Int32)) (by decide) ?_
      refine V.icmp_ne (pc := 73) (t := 83) C dX1_scanRule_73 (by decide) (fun c27 => ?_) (fun c27 => ?_)
      · replace hf := ite_f c27 hf
        refine V.sub (L' := [(0, .ref a0), (1, .ref a1), (3, .int q3.1)]) [2, 3, 0] rfl ?_
        exact bX1_scanRule_83 C  hf
      replace hf := ite_t c27 hf
      refine V.sub (L' := [(1, .ref a1), (2, .int q1.1)]) [3, 1] rfl ?_
      exact bX1_scanRule_76 C  hf
    replace hf := ite_f c8 hf
    refine V.aload_n (pc := 26) C dX1_scanRule_26 3 rfl ?_
    refine V.iload_n (pc := 27) C dX1_scanRule_27 1 rfl ?_
    refine V.iconst (pc := 28) C dX1_scanRule_28 (v := (2 : Int32)) (by decide) ?_
    replace hf := ob_some hf
    obtain ⟨q28, h29, hf⟩ := hf
    refine V.callV0v (pc := 29) C hyX6_blame wd_388 (mX6_blame (r := q28.1) (g' := q28.2) K.2.1 E (kS K) h29) rfl rfl rfl (oX6_blame h29) ⟨Nat.le_of_ble_eq_true rfl, Nat.le_of_ble_eq_true rfl⟩ (Nat.le_of_ble_eq_true rfl) dX1_scanRule_29 ⟨Nat.zero_le _, Nat.zero_le _⟩ rfl ?_
    obtain ⟨f1, f2⟩ := fin2 hf
    clear hf
    subst f1
    subst f2
    exact V.vret (pc := 32) C rfl dX1_scanRule_32
  replace hf := ite_t c5 hf
  obtain ⟨f1, f2⟩ := fin2 hf
  clear hf
  subst f1
  subst f2
  exact V.vret (pc := 17) C rfl dX1_scanRule_17
theorem dX1_scan_0 : decode cX1_scan 0 = .ok (.aload_n 1, 1) := by decide +kernel
theorem dX1_scan_1 : decode cX1_scan 1 = .ok (.invokevirtual 41, 3) := by decide +kernel
theorem dX1_scan_4 : decode cX1_scan 4 = .ok (.aload_n 0, 1) := by decide +kernel
theorem dX1_scan_5 : decode cX1_scan 5 = .ok (.aload_n 1, 1) := by decide +kernel
theorem dX1_scan_6 : decode cX1_scan 6 = .ok (.invokevirtual 46, 3) := by decide +kernel
theorem dX1_scan_9 : decode cX1_scan 9 = .ok (.iconst 0, 1) := by decide +kernel
theorem dX1_scan_10 : decode cX1_scan 10 = .ok (.istore_n 2, 1) := by decide +kernel
theorem dX1_scan_11 : decode cX1_scan 11 = .ok (.iload_n 2, 1) := by decide +kernel
theorem dX1_scan_12 : decode cX1_scan 12 = .ok (.iconst 4, 1) := by decide +kernel
theorem dX1_scan_13 : decode cX1_scan 13 = .ok (.if_icmp .ge 28, 3) := by decide +kernel
theorem dX1_scan_16 : decode cX1_scan 16 = .ok (.aload_n 1, 1) := by decide +kernel
theorem dX1_scan_17 : decode cX1_scan 17 = .ok (.invokevirtual 50, 3) := by decide +kernel
theorem dX1_scan_20 : decode cX1_scan 20 = .ok (.ifCond .ne 21, 3) := by decide +kernel
theorem dX1_scan_23 : decode cX1_scan 23 = .ok (.aload_n 1, 1) := by decide +kernel
theorem dX1_scan_24 : decode cX1_scan 24 = .ok (.ldc 54, 2) := by decide +kernel
theorem dX1_scan_26 : decode cX1_scan 26 = .ok (.invokevirtual 56, 3) := by decide +kernel
theorem dX1_scan_29 : decode cX1_scan 29 = .ok (.pop, 1) := by decide +kernel
theorem dX1_scan_30 : decode cX1_scan 30 = .ok (.aload_n 0, 1) := by decide +kernel
theorem dX1_scan_31 : decode cX1_scan 31 = .ok (.aload_n 1, 1) := by decide +kernel
theorem dX1_scan_32 : decode cX1_scan 32 = .ok (.invokevirtual 46, 3) := by decide +kernel
theorem dX1_scan_35 : decode cX1_scan 35 = .ok (.iinc 2 1, 3) := by decide +kernel
theorem dX1_scan_38 : decode cX1_scan 38 = .ok (.goto (-27), 3) := by decide +kernel
theorem dX1_scan_41 : decode cX1_scan 41 = .ok (.return_, 1) := by decide +kernel
def fX1_scan_11  : Nat → PH → Nat → Nat → Int32 → Option (Unit × PH)
  | 0, _, _, _, _ => none
  | n + 1, g, v0, v1, v2 =>
  if (4 : Int32) ≤ v2 then (some ((), g)) else
  ((fX6_isOver g v1).bind fun q2 =>
  (if q2.1 = 0 then ((fX6_take q2.2 v1 6).bind fun q5 =>
  ((fX1_scanRule q5.2 v0 v1).bind fun q7 =>
  (fX1_scan_11 n q7.2 v0 v1 (v2 + (1 : Int32))))) else
  (some ((), q2.2))))
set_option maxHeartbeats 4000000 in
set_option maxRecDepth 100000 in
theorem bX1_scan_11 {K : HK} {E : HE} {r : Unit} {g' : PH}  (C : VC K E 3 cX1_scan RX1 none)  : ∀ (n : Nat) (g : PH) (v0 : Nat) (v1 : Nat) (v2 : Int32), fX1_scan_11  n g v0 v1 v2 = some (r, g') → V K E (hRm 7 161 0 0) 3 (hZ K E none g' 0 0) 0 0 (kS K) g 11 [(0, .ref v0), (1, .ref v1), (2, .int v2)] [] := by
  intro n
  induction n with
  | zero =>
    intro g v0 v1 v2 hf
    rw [fX1_scan_11] at hf
    cases hf
  | succ n ih =>
    intro g v0 v1 v2 hf
    rw [fX1_scan_11] at hf
    refine V.iload_n (pc := 11) C dX1_scan_11 2 rfl ?_
    refine V.iconst (pc := 12) C dX1_scan_12 (v := (4 : Int32)) (by decide) ?_
    refine V.icmp_ge (pc := 13) (t := 41) C dX1_scan_13 (by decide) (fun c1 => ?_) (fun c1 => ?_)
    · replace hf := ite_t c1 hf
      obtain ⟨f1, f2⟩ := fin2 hf
      clear hf
      subst f1
      subst f2
      exact V.vret (pc := 41) C rfl dX1_scan_41
    replace hf := ite_f c1 hf
    refine V.aload_n (pc := 16) C dX1_scan_16 1 rfl ?_
    replace hf := ob_some hf
    obtain ⟨q2, h3, hf⟩ := hf
    refine V.callV0i (pc := 17) C hyX6_isOver wd_398 (mX6_isOver (r := q2.1) (g' := q2.2) K.2.1 E (kS K) h3) rfl rfl rfl (oX6_isOver h3) ⟨Nat.le_of_ble_eq_true rfl, Nat.le_of_ble_eq_true rfl⟩ (Nat.le_of_ble_eq_true rfl) dX1_scan_17 ⟨Nat.zero_le _, Nat.zero_le _⟩ rfl ?_
    refine V.if_ne (pc := 20) (t := 41) C dX1_scan_20 (by decide) (fun c4 => ?_) (fun c4 => ?_)
    · replace hf := ite_f c4 hf
      obtain ⟨f1, f2⟩ := fin2 hf
      clear hf
      subst f1
      subst f2
      exact V.vret (pc := 41) C rfl dX1_scan_41
    replace hf := ite_t c4 hf
    refine V.aload_n (pc := 23) C dX1_scan_23 1 rfl ?_
    refine V.ldcS (pc := 24) C (j := 6) rfl dX1_scan_24 ?_
    replace hf := ob_some hf
    obtain ⟨q5, h6, hf⟩ := hf
    refine V.callV0i (pc := 26) C hyX6_take wd_297 (mX6_take (r := q5.1) (g' := q5.2) K.2.1 E (kS K) h6) rfl rfl rfl (oX6_take h6) ⟨Nat.le_of_ble_eq_true rfl, Nat.le_of_ble_eq_true rfl⟩ (Nat.le_of_ble_eq_true rfl) dX1_scan_26 ⟨Nat.zero_le _, Nat.zero_le _⟩ rfl ?_
    refine V.pop (pc := 29) C dX1_scan_29 rfl ?_
    refine V.aload_n (pc := 30) C dX1_scan_30 0 rfl ?_
    refine V.aload_n (pc := 31) C dX1_scan_31 1 rfl ?_
    replace hf := ob_some hf
    obtain ⟨q7, h8, hf⟩ := hf
    refine V.callV0v (pc := 32) C hyX1_scanRule wd_284 (mX1_scanRule (r := q7.1) (g' := q7.2) K.2.1 E (kS K) h8) rfl rfl rfl (oX1_scanRule h8) ⟨Nat.le_of_ble_eq_true rfl, Nat.le_of_ble_eq_true rfl⟩ (Nat.le_of_ble_eq_true rfl) dX1_scan_32 ⟨Nat.zero_le _, Nat.zero_le _⟩ rfl ?_
    refine V.iinc (pc := 35) (v := (v2 + (1 : Int32))) (L' := [(2, .int (v2 + (1 : Int32))), (0, .ref v0), (1, .ref v1)]) C dX1_scan_35 2 rfl rfl (by decide) rfl ?_
    refine V.goto (pc := 38) (t := 11) C dX1_scan_38 (by decide) ?_
    refine V.sub (L' := [(0, .ref v0), (1, .ref v1), (2, .int (v2 + (1 : Int32)))]) [1, 2, 0] rfl ?_
    exact ih _ _ _ _ hf
def fX1_scan (g : PH) (a0 : Nat) (a1 : Nat) : Option (Unit × PH) :=
  okb (isO g a0 1) ((fX6_rewind g a1).bind fun q1 =>
  ((fX1_scanRule q1.2 a0 a1).bind fun q3 =>
  (fX1_scan_11 FUEL q3.2 a0 a1 (0 : Int32))))
theorem oX1_scan {g : PH} {a0 : Nat} {a1 : Nat} {q : (Unit × PH)} (h : fX1_scan g a0 a1 = some q) : isO g a0 1 = true := by unfold fX1_scan at h; exact (okb_some h).1
theorem hyX1_scan : hMet yX1_scan RX1 cX1_scan 3 none 1 := ⟨wd_279, wd_277, wd_278, wd_8, rfl, by decide +kernel, by decide +kernel, by decide +kernel⟩
set_option maxHeartbeats 4000000 in
set_option maxRecDepth 100000 in
theorem mX1_scan (l : Launch) (E : HE) (sz : Nat) {g g' : PH} {a0 : Nat} {a1 : Nat} {r : Unit} (hf : fX1_scan g a0 a1 = some (r, g')) : hM l E yX1_scan cX1_scan 3 none 7 161 0 0 sz g [.ref a0, .ref a1] none g' := by
  refine hM.of (by decide) (Nat.le_of_ble_eq_true rfl) (fun K hl C hin hsz => ?_)
  subst hl
  subst hsz
  have C : VC K E 3 cX1_scan RX1 none := C
  unfold fX1_scan at hf
  replace hf := okb_some hf
  obtain ⟨ho, hf⟩ := hf
  refine V.start (L' := [(0, .ref a0), (1, .ref a1)]) rfl ?_
  refine V.aload_n (pc := 0) C dX1_scan_0 1 rfl ?_
  replace hf := ob_some hf
  obtain ⟨q1, h2, hf⟩ := hf
  refine V.callV0v (pc := 1) C hyX6_rewind wd_280 (mX6_rewind (r := q1.1) (g' := q1.2) K.2.1 E (kS K) h2) rfl rfl rfl (oX6_rewind h2) ⟨Nat.le_of_ble_eq_true rfl, Nat.le_of_ble_eq_true rfl⟩ (Nat.le_of_ble_eq_true rfl) dX1_scan_1 ⟨Nat.zero_le _, Nat.zero_le _⟩ rfl ?_
  refine V.aload_n (pc := 4) C dX1_scan_4 0 rfl ?_
  refine V.aload_n (pc := 5) C dX1_scan_5 1 rfl ?_
  replace hf := ob_some hf
  obtain ⟨q3, h4, hf⟩ := hf
  refine V.callV0v (pc := 6) C hyX1_scanRule wd_284 (mX1_scanRule (r := q3.1) (g' := q3.2) K.2.1 E (kS K) h4) rfl rfl rfl (oX1_scanRule h4) ⟨Nat.le_of_ble_eq_true rfl, Nat.le_of_ble_eq_true rfl⟩ (Nat.le_of_ble_eq_true rfl) dX1_scan_6 ⟨Nat.zero_le _, Nat.zero_le _⟩ rfl ?_
  refine V.iconst (pc := 9) C dX1_scan_9 (v := (0 : Int32)) (by decide) ?_
  refine V.istore_n (pc := 10) (L' := [(2, .int (0 : Int32)), (0, .ref a0), (1, .ref a1)]) C dX1_scan_10 (by decide) rfl ?_
  refine V.sub (L' := [(0, .ref a0), (1, .ref a1), (2, .int (0 : Int32))]) [1, 2, 0] rfl ?_
  exact bX1_scan_11 C  _ _ _ _ _ hf
theorem dX1_firstRule_0 : decode cX1_firstRule 0 = .ok (.iconst 0, 1) := by decide +kernel
theorem dX1_firstRule_1 : decode cX1_firstRule 1 = .ok (.istore 4, 2) := by decide +kernel
theorem dX1_firstRule_3 : decode cX1_firstRule 3 = .ok (.iload 4, 2) := by decide +kernel
theorem dX1_firstRule_5 : decode cX1_firstRule 5 = .ok (.aload_n 0, 1) := by decide +kernel
theorem dX1_firstRule_6 : decode cX1_firstRule 6 = .ok (.getfield 9, 3) := by decide +kernel
theorem dX1_firstRule_9 : decode cX1_firstRule 9 = .ok (.if_icmp .ge 51, 3) := by decide +kernel
theorem dX1_firstRule_12 : decode cX1_firstRule 12 = .ok (.iload 4, 2) := by decide +kernel
theorem dX1_firstRule_14 : decode cX1_firstRule 14 = .ok (.iconst 4, 1) := by decide +kernel
theorem dX1_firstRule_15 : decode cX1_firstRule 15 = .ok (.if_icmp .ge 45, 3) := by decide +kernel
theorem dX1_firstRule_18 : decode cX1_firstRule 18 = .ok (.aload_n 0, 1) := by decide +kernel
theorem dX1_firstRule_19 : decode cX1_firstRule 19 = .ok (.getfield 19, 3) := by decide +kernel
theorem dX1_firstRule_22 : decode cX1_firstRule 22 = .ok (.iload 4, 2) := by decide +kernel
theorem dX1_firstRule_24 : decode cX1_firstRule 24 = .ok (.iaload, 1) := by decide +kernel
theorem dX1_firstRule_25 : decode cX1_firstRule 25 = .ok (.iload_n 1, 1) := by decide +kernel
theorem dX1_firstRule_26 : decode cX1_firstRule 26 = .ok (.if_icmp .ne 28, 3) := by decide +kernel
theorem dX1_firstRule_29 : decode cX1_firstRule 29 = .ok (.aload_n 0, 1) := by decide +kernel
theorem dX1_firstRule_30 : decode cX1_firstRule 30 = .ok (.getfield 23, 3) := by decide +kernel
theorem dX1_firstRule_33 : decode cX1_firstRule 33 = .ok (.iload 4, 2) := by decide +kernel
theorem dX1_firstRule_35 : decode cX1_firstRule 35 = .ok (.iaload, 1) := by decide +kernel
theorem dX1_firstRule_36 : decode cX1_firstRule 36 = .ok (.iload_n 2, 1) := by decide +kernel
theorem dX1_firstRule_37 : decode cX1_firstRule 37 = .ok (.if_icmp .ne 17, 3) := by decide +kernel
theorem dX1_firstRule_40 : decode cX1_firstRule 40 = .ok (.aload_n 0, 1) := by decide +kernel
theorem dX1_firstRule_41 : decode cX1_firstRule 41 = .ok (.getfield 26, 3) := by decide +kernel
theorem dX1_firstRule_44 : decode cX1_firstRule 44 = .ok (.iload 4, 2) := by decide +kernel
theorem dX1_firstRule_46 : decode cX1_firstRule 46 = .ok (.iaload, 1) := by decide +kernel
theorem dX1_firstRule_47 : decode cX1_firstRule 47 = .ok (.iload_n 3, 1) := by decide +kernel
theorem dX1_firstRule_48 : decode cX1_firstRule 48 = .ok (.if_icmp .ne 6, 3) := by decide +kernel
theorem dX1_firstRule_51 : decode cX1_firstRule 51 = .ok (.iload 4, 2) := by decide +kernel
theorem dX1_firstRule_53 : decode cX1_firstRule 53 = .ok (.ireturn, 1) := by decide +kernel
theorem dX1_firstRule_54 : decode cX1_firstRule 54 = .ok (.iinc 4 1, 3) := by decide +kernel
theorem dX1_firstRule_57 : decode cX1_firstRule 57 = .ok (.goto (-54), 3) := by decide +kernel
theorem dX1_firstRule_60 : decode cX1_firstRule 60 = .ok (.iconst (-1), 1) := by decide +kernel
theorem dX1_firstRule_61 : decode cX1_firstRule 61 = .ok (.ireturn, 1) := by decide +kernel
def fX1_firstRule_54 (k3 : PH → Nat → Int32 → Int32 → Int32 → Int32 → Option (Int32 × PH)) (g : PH) (v0 : Nat) (v1 : Int32) (v2 : Int32) (v3 : Int32) (v4 : Int32) : Option (Int32 × PH) :=
  k3 g v0 v1 v2 v3 (v4 + (1 : Int32))
set_option maxHeartbeats 4000000 in
set_option maxRecDepth 100000 in
theorem bX1_firstRule_54 {K : HK} {E : HE} {r : Int32} {g' : PH} {k3 : PH → Nat → Int32 → Int32 → Int32 → Int32 → Option (Int32 × PH)} (C : VC K E 5 cX1_firstRule RX1 (some .int)) (hk3 : ∀ (g : PH) (v0 : Nat) (v1 : Int32) (v2 : Int32) (v3 : Int32) (v4 : Int32), k3 g v0 v1 v2 v3 v4 = some (r, g') → V K E (hRm 0 0 0 0) 5 (hZ K E (some (.int r)) g' 0 0) 0 0 (kS K) g 3 [(0, .ref v0), (1, .int v1), (2, .int v2), (3, .int v3), (4, .int v4)] []) {g : PH} {v0 : Nat} {v1 : Int32} {v2 : Int32} {v3 : Int32} {v4 : Int32} (hf : fX1_firstRule_54 k3 g v0 v1 v2 v3 v4 = some (r, g')) : V K E (hRm 0 0 0 0) 5 (hZ K E (some (.int r)) g' 0 0) 0 0 (kS K) g 54 [(0, .ref v0), (1, .int v1), (2, .int v2), (3, .int v3), (4, .int v4)] [] := by
  unfold fX1_firstRule_54 at hf
  refine V.iinc (pc := 54) (v := (v4 + (1 : Int32))) (L' := [(4, .int (v4 + (1 : Int32))), (0, .ref v0), (1, .int v1), (2, .int v2), (3, .int v3)]) C dX1_firstRule_54 4 rfl rfl (by decide) rfl ?_
  refine V.goto (pc := 57) (t := 3) C dX1_firstRule_57 (by decide) ?_
  refine V.sub (L' := [(0, .ref v0), (1, .int v1), (2, .int v2), (3, .int v3), (4, .int (v4 + (1 : Int32)))]) [1, 2, 3, 4, 0] rfl ?_
  exact hk3 _ _ _ _ _ _ hf
def fX1_firstRule_3  : Nat → PH → Nat → Int32 → Int32 → Int32 → Int32 → Option (Int32 × PH)
  | 0, _, _, _, _, _, _ => none
  | n + 1, g, v0, v1, v2, v3, v4 =>
  (getI g v0 1 0).bind fun x1 =>
  (if x1 ≤ v4 then (some ((-1 : Int32), g)) else
  (if (4 : Int32) ≤ v4 then (some ((-1 : Int32), g)) else
  ((getR g v0 1 2).bind fun p5 =>
  ((ldI g p5 0 v4).bind fun x7 =>
  (if x7 = v1 then ((getR g v0 1 3).bind fun p10 =>
  ((ldI g p10 0 v4).bind fun x12 =>
  (if x12 = v2 then ((getR g v0 1 4).bind fun p15 =>
  ((ldI g p15 0 v4).bind fun x17 =>
  (if x17 = v3 then (some (v4, g)) else
  (fX1_firstRule_54 (fX1_firstRule_3 n) g v0 v1 v2 v3 v4)))) else
  (fX1_firstRule_54 (fX1_firstRule_3 n) g v0 v1 v2 v3 v4)))) else
  (fX1_firstRule_54 (fX1_firstRule_3 n) g v0 v1 v2 v3 v4))))))
set_option maxHeartbeats 4000000 in
set_option maxRecDepth 100000 in
theorem bX1_firstRule_3 {K : HK} {E : HE} {r : Int32} {g' : PH}  (C : VC K E 5 cX1_firstRule RX1 (some .int))  : ∀ (n : Nat) (g : PH) (v0 : Nat) (v1 : Int32) (v2 : Int32) (v3 : Int32) (v4 : Int32), fX1_firstRule_3  n g v0 v1 v2 v3 v4 = some (r, g') → V K E (hRm 0 0 0 0) 5 (hZ K E (some (.int r)) g' 0 0) 0 0 (kS K) g 3 [(0, .ref v0), (1, .int v1), (2, .int v2), (3, .int v3), (4, .int v4)] [] := by
  intro n
  induction n with
  | zero =>
    intro g v0 v1 v2 v3 v4 hf
    rw [fX1_firstRule_3] at hf
    cases hf
  | succ n ih =>
    intro g v0 v1 v2 v3 v4 hf
    rw [fX1_firstRule_3] at hf
    refine V.iload (pc := 3) C dX1_firstRule_3 4 rfl ?_
    refine V.aload_n (pc := 5) C dX1_firstRule_5 0 rfl ?_
    replace hf := ob_some hf
    obtain ⟨x1, h2, hf⟩ := hf
    refine V.getI (pc := 6) C kX1 (k := 0) (by decide) wd_246 h2 dX1_firstRule_6 ?_
    refine V.icmp_ge (pc := 9) (t := 60) C dX1_firstRule_9 (by decide) (fun c3 => ?_) (fun c3 => ?_)
    · replace hf := ite_t c3 hf
      refine V.iconst (pc := 60) C dX1_firstRule_60 (v := (-1 : Int32)) (by decide) ?_
      obtain ⟨f1, f2⟩ := fin2 hf
      clear hf
      subst f1
      subst f2
      exact V.iret (pc := 61) C rfl dX1_firstRule_61
    replace hf := ite_f c3 hf
    refine V.iload (pc := 12) C dX1_firstRule_12 4 rfl ?_
    refine V.iconst (pc := 14) C dX1_firstRule_14 (v := (4 : Int32)) (by decide) ?_
    refine V.icmp_ge (pc := 15) (t := 60) C dX1_firstRule_15 (by decide) (fun c4 => ?_) (fun c4 => ?_)
    · replace hf := ite_t c4 hf
      refine V.iconst (pc := 60) C dX1_firstRule_60 (v := (-1 : Int32)) (by decide) ?_
      obtain ⟨f1, f2⟩ := fin2 hf
      clear hf
      subst f1
      subst f2
      exact V.iret (pc := 61) C rfl dX1_firstRule_61
    replace hf := ite_f c4 hf
    refine V.aload_n (pc := 18) C dX1_firstRule_18 0 rfl ?_
    replace hf := ob_some hf
    obtain ⟨p5, h6, hf⟩ := hf
    refine V.getR (pc := 19) C kX1 (k := 2) (by decide) wd_250 h6 dX1_firstRule_19 ?_
    refine V.iload (pc := 22) C dX1_firstRule_22 4 rfl ?_
    replace hf := ob_some hf
    obtain ⟨x7, h8, hf⟩ := hf
    refine V.iald (pc := 24) C h8 dX1_firstRule_24 ?_
    refine V.iload_n (pc := 25) C dX1_firstRule_25 1 rfl ?_
    refine V.icmp_ne (pc := 26) (t := 54) C dX1_firstRule_26 (by decide) (fun c9 => ?_) (fun c9 => ?_)
    · replace hf := ite_f c9 hf
      refine V.sub (L' := [(0, .ref v0), (1, .int v1), (2, .int v2), (3, .int v3), (4, .int v4)]) [0, 1, 2, 3, 4] rfl ?_
      exact bX1_firstRule_54 C ih hf
    replace hf := ite_t c9 hf
    refine V.aload_n (pc := 29) C dX1_firstRule_29 0 rfl ?_
    replace hf := ob_some hf
    obtain ⟨p10, h11, hf⟩ := hf
    refine V.getR (pc := 30) C kX1 (k := 3) (by decide) wd_251 h11 dX1_firstRule_30 ?_
    refine V.iload (pc := 33) C dX1_firstRule_33 4 rfl ?_
    replace hf := ob_some hf
    obtain ⟨x12, h13, hf⟩ := hf
    refine V.iald (pc := 35) C h13 dX1_firstRule_35 ?_
    refine V.iload_n (pc := 36) C dX1_firstRule_36 2 rfl ?_
    refine V.icmp_ne (pc := 37) (t := 54) C dX1_firstRule_37 (by decide) (fun c14 => ?_) (fun c14 => ?_)
    · replace hf := ite_f c14 hf
      refine V.sub (L' := [(0, .ref v0), (1, .int v1), (2, .int v2), (3, .int v3), (4, .int v4)]) [0, 1, 2, 3, 4] rfl ?_
      exact bX1_firstRule_54 C ih hf
    replace hf := ite_t c14 hf
    refine V.aload_n (pc := 40) C dX1_firstRule_40 0 rfl ?_
    replace hf := ob_some hf
    obtain ⟨p15, h16, hf⟩ := hf
    refine V.getR (pc := 41) C kX1 (k := 4) (by decide) wd_252 h16 dX1_firstRule_41 ?_
    refine V.iload (pc := 44) C dX1_firstRule_44 4 rfl ?_
    replace hf := ob_some hf
    obtain ⟨x17, h18, hf⟩ := hf
    refine V.iald (pc := 46) C h18 dX1_firstRule_46 ?_
    refine V.iload_n (pc := 47) C dX1_firstRule_47 3 rfl ?_
    refine V.icmp_ne (pc := 48) (t := 54) C dX1_firstRule_48 (by decide) (fun c19 => ?_) (fun c19 => ?_)
    · replace hf := ite_f c19 hf
      refine V.sub (L' := [(0, .ref v0), (1, .int v1), (2, .int v2), (3, .int v3), (4, .int v4)]) [0, 1, 2, 3, 4] rfl ?_
      exact bX1_firstRule_54 C ih hf
    replace hf := ite_t c19 hf
    refine V.iload (pc := 51) C dX1_firstRule_51 4 rfl ?_
    obtain ⟨f1, f2⟩ := fin2 hf
    clear hf
    subst f1
    subst f2
    exact V.iret (pc := 53) C rfl dX1_firstRule_53
def fX1_firstRule (g : PH) (a0 : Nat) (a1 : Int32) (a2 : Int32) (a3 : Int32) : Option (Int32 × PH) :=
  okb (isO g a0 1) (fX1_firstRule_3 FUEL g a0 a1 a2 a3 (0 : Int32))
theorem oX1_firstRule {g : PH} {a0 : Nat} {a1 : Int32} {a2 : Int32} {a3 : Int32} {q : (Int32 × PH)} (h : fX1_firstRule g a0 a1 a2 a3 = some q) : isO g a0 1 = true := by unfold fX1_firstRule at h; exact (okb_some h).1
theorem hyX1_firstRule : hMet yX1_firstRule RX1 cX1_firstRule 5 (some .int) 3 := ⟨wd_414, wd_413, ws_5, wd_8, rfl, by decide +kernel, by decide +kernel, by decide +kernel⟩
set_option maxHeartbeats 4000000 in
set_option maxRecDepth 100000 in
theorem mX1_firstRule (l : Launch) (E : HE) (sz : Nat) {g g' : PH} {a0 : Nat} {a1 : Int32} {a2 : Int32} {a3 : Int32} {r : Int32} (hf : fX1_firstRule g a0 a1 a2 a3 = some (r, g')) : hM l E yX1_firstRule cX1_firstRule 5 (some .int) 0 0 0 0 sz g [.ref a0, .int a1, .int a2, .int a3] (some (.int r)) g' := by
  refine hM.of (by decide) (Nat.le_of_ble_eq_true rfl) (fun K hl C hin hsz => ?_)
  subst hl
  subst hsz
  have C : VC K E 5 cX1_firstRule RX1 (some .int) := C
  unfold fX1_firstRule at hf
  replace hf := okb_some hf
  obtain ⟨ho, hf⟩ := hf
  refine V.start (L' := [(0, .ref a0), (1, .int a1), (2, .int a2), (3, .int a3)]) rfl ?_
  refine V.iconst (pc := 0) C dX1_firstRule_0 (v := (0 : Int32)) (by decide) ?_
  refine V.istore (pc := 1) (L' := [(4, .int (0 : Int32)), (0, .ref a0), (1, .int a1), (2, .int a2), (3, .int a3)]) C dX1_firstRule_1 (by decide) rfl ?_
  refine V.sub (L' := [(0, .ref a0), (1, .int a1), (2, .int a2), (3, .int a3), (4, .int (0 : Int32))]) [1, 2, 3, 4, 0] rfl ?_
  exact bX1_firstRule_3 C  _ _ _ _ _ _ _ hf
theorem dX1_affected_0 : decode cX1_affected 0 = .ok (.iload_n 2, 1) := by decide +kernel
theorem dX1_affected_1 : decode cX1_affected 1 = .ok (.ifCond .lt 8, 3) := by decide +kernel
theorem dX1_affected_4 : decode cX1_affected 4 = .ok (.iload_n 2, 1) := by decide +kernel
theorem dX1_affected_5 : decode cX1_affected 5 = .ok (.iconst 4, 1) := by decide +kernel
theorem dX1_affected_6 : decode cX1_affected 6 = .ok (.if_icmp .lt 5, 3) := by decide +kernel
theorem dX1_affected_9 : decode cX1_affected 9 = .ok (.iload_n 1, 1) := by decide +kernel
theorem dX1_affected_10 : decode cX1_affected 10 = .ok (.ireturn, 1) := by decide +kernel
theorem dX1_affected_11 : decode cX1_affected 11 = .ok (.aload_n 0, 1) := by decide +kernel
theorem dX1_affected_12 : decode cX1_affected 12 = .ok (.getfield 29, 3) := by decide +kernel
theorem dX1_affected_15 : decode cX1_affected 15 = .ok (.iload_n 2, 1) := by decide +kernel
theorem dX1_affected_16 : decode cX1_affected 16 = .ok (.iaload, 1) := by decide +kernel
theorem dX1_affected_17 : decode cX1_affected 17 = .ok (.iconst 2, 1) := by decide +kernel
theorem dX1_affected_18 : decode cX1_affected 18 = .ok (.if_icmp .ne 9, 3) := by decide +kernel
theorem dX1_affected_21 : decode cX1_affected 21 = .ok (.iload_n 1, 1) := by decide +kernel
theorem dX1_affected_22 : decode cX1_affected 22 = .ok (.iconst 1, 1) := by decide +kernel
theorem dX1_affected_23 : decode cX1_affected 23 = .ok (.ixor, 1) := by decide +kernel
theorem dX1_affected_24 : decode cX1_affected 24 = .ok (.goto 13, 3) := by decide +kernel
theorem dX1_affected_27 : decode cX1_affected 27 = .ok (.iload_n 1, 1) := by decide +kernel
theorem dX1_affected_28 : decode cX1_affected 28 = .ok (.iconst 2, 1) := by decide +kernel
theorem dX1_affected_29 : decode cX1_affected 29 = .ok (.iand, 1) := by decide +kernel
theorem dX1_affected_30 : decode cX1_affected 30 = .ok (.aload_n 0, 1) := by decide +kernel
theorem dX1_affected_31 : decode cX1_affected 31 = .ok (.getfield 29, 3) := by decide +kernel
theorem dX1_affected_34 : decode cX1_affected 34 = .ok (.iload_n 2, 1) := by decide +kernel
theorem dX1_affected_35 : decode cX1_affected 35 = .ok (.iaload, 1) := by decide +kernel
theorem dX1_affected_36 : decode cX1_affected 36 = .ok (.ior, 1) := by decide +kernel
theorem dX1_affected_37 : decode cX1_affected 37 = .ok (.ireturn, 1) := by decide +kernel
def fX1_affected (g : PH) (a0 : Nat) (a1 : Int32) (a2 : Int32) : Option (Int32 × PH) :=
  okb (isO g a0 1) (if a2 < 0 then (some (a1, g)) else
  (if a2 < (4 : Int32) then ((getR g a0 1 5).bind fun p3 =>
  ((ldI g p3 0 a2).bind fun x5 =>
  (if x5 = (2 : Int32) then (some ((a1 ^^^ (1 : Int32)), g)) else
  ((getR g a0 1 5).bind fun p8 =>
  ((ldI g p8 0 a2).bind fun x10 =>
  (some (((a1 &&& (2 : Int32)) ||| x10), g))))))) else
  (some (a1, g))))
theorem oX1_affected {g : PH} {a0 : Nat} {a1 : Int32} {a2 : Int32} {q : (Int32 × PH)} (h : fX1_affected g a0 a1 a2 = some q) : isO g a0 1 = true := by unfold fX1_affected at h; exact (okb_some h).1
theorem hyX1_affected : hMet yX1_affected RX1 cX1_affected 3 (some .int) 2 := ⟨wd_418, wd_417, ws_6, wd_8, rfl, by decide +kernel, by decide +kernel, by decide +kernel⟩
set_option maxHeartbeats 4000000 in
set_option maxRecDepth 100000 in
theorem mX1_affected (l : Launch) (E : HE) (sz : Nat) {g g' : PH} {a0 : Nat} {a1 : Int32} {a2 : Int32} {r : Int32} (hf : fX1_affected g a0 a1 a2 = some (r, g')) : hM l E yX1_affected cX1_affected 3 (some .int) 0 0 0 0 sz g [.ref a0, .int a1, .int a2] (some (.int r)) g' := by
  refine hM.of (by decide) (Nat.le_of_ble_eq_true rfl) (fun K hl C hin hsz => ?_)
  subst hl
  subst hsz
  have C : VC K E 3 cX1_affected RX1 (some .int) := C
  unfold fX1_affected at hf
  replace hf := okb_some hf
  obtain ⟨ho, hf⟩ := hf
  refine V.start (L' := [(0, .ref a0), (1, .int a1), (2, .int a2)]) rfl ?_
  refine V.iload_n (pc := 0) C dX1_affected_0 2 rfl ?_
  refine V.if_lt (pc := 1) (t := 9) C dX1_affected_1 (by decide) (fun c1 => ?_) (fun c1 => ?_)
  · replace hf := ite_t c1 hf
    refine V.iload_n (pc := 9) C dX1_affected_9 1 rfl ?_
    obtain ⟨f1, f2⟩ := fin2 hf
    clear hf
    subst f1
    subst f2
    exact V.iret (pc := 10) C rfl dX1_affected_10
  replace hf := ite_f c1 hf
  refine V.iload_n (pc := 4) C dX1_affected_4 2 rfl ?_
  refine V.iconst (pc := 5) C dX1_affected_5 (v := (4 : Int32)) (by decide) ?_
  refine V.icmp_lt (pc := 6) (t := 11) C dX1_affected_6 (by decide) (fun c2 => ?_) (fun c2 => ?_)
  · replace hf := ite_t c2 hf
    refine V.aload_n (pc := 11) C dX1_affected_11 0 rfl ?_
    replace hf := ob_some hf
    obtain ⟨p3, h4, hf⟩ := hf
    refine V.getR (pc := 12) C kX1 (k := 5) (by decide) wd_253 h4 dX1_affected_12 ?_
    refine V.iload_n (pc := 15) C dX1_affected_15 2 rfl ?_
    replace hf := ob_some hf
    obtain ⟨x5, h6, hf⟩ := hf
    refine V.iald (pc := 16) C h6 dX1_affected_16 ?_
    refine V.iconst (pc := 17) C dX1_affected_17 (v := (2 : Int32)) (by decide) ?_
    refine V.icmp_ne (pc := 18) (t := 27) C dX1_affected_18 (by decide) (fun c7 => ?_) (fun c7 => ?_)
    · replace hf := ite_f c7 hf
      refine V.iload_n (pc := 27) C dX1_affected_27 1 rfl ?_
      refine V.iconst (pc := 28) C dX1_affected_28 (v := (2 : Int32)) (by decide) ?_
      refine V.iand (pc := 29) C dX1_affected_29 ?_
      refine V.aload_n (pc := 30) C dX1_affected_30 0 rfl ?_
      replace hf := ob_some hf
      obtain ⟨p8, h9, hf⟩ := hf
      refine V.getR (pc := 31) C kX1 (k := 5) (by decide) wd_253 h9 dX1_affected_31 ?_
      refine V.iload_n (pc := 34) C dX1_affected_34 2 rfl ?_
      replace hf := ob_some hf
      obtain ⟨x10, h11, hf⟩ := hf
      refine V.iald (pc := 35) C h11 dX1_affected_35 ?_
      refine V.ior (pc := 36) C dX1_affected_36 ?_
      obtain ⟨f1, f2⟩ := fin2 hf
      clear hf
      subst f1
      subst f2
      exact V.iret (pc := 37) C rfl dX1_affected_37
    replace hf := ite_t c7 hf
    refine V.iload_n (pc := 21) C dX1_affected_21 1 rfl ?_
    refine V.iconst (pc := 22) C dX1_affected_22 (v := (1 : Int32)) (by decide) ?_
    refine V.ixor (pc := 23) C dX1_affected_23 ?_
    refine V.goto (pc := 24) (t := 37) C dX1_affected_24 (by decide) ?_
    obtain ⟨f1, f2⟩ := fin2 hf
    clear hf
    subst f1
    subst f2
    exact V.iret (pc := 37) C rfl dX1_affected_37
  replace hf := ite_f c2 hf
  refine V.iload_n (pc := 9) C dX1_affected_9 1 rfl ?_
  obtain ⟨f1, f2⟩ := fin2 hf
  clear hf
  subst f1
  subst f2
  exact V.iret (pc := 10) C rfl dX1_affected_10
theorem dX1_settle_0 : decode cX1_settle 0 = .ok (.aload_n 0, 1) := by decide +kernel
theorem dX1_settle_1 : decode cX1_settle 1 = .ok (.iload_n 1, 1) := by decide +kernel
theorem dX1_settle_2 : decode cX1_settle 2 = .ok (.aload_n 0, 1) := by decide +kernel
theorem dX1_settle_3 : decode cX1_settle 3 = .ok (.iconst 3, 1) := by decide +kernel
theorem dX1_settle_4 : decode cX1_settle 4 = .ok (.iconst 0, 1) := by decide +kernel
theorem dX1_settle_5 : decode cX1_settle 5 = .ok (.iconst 0, 1) := by decide +kernel
theorem dX1_settle_6 : decode cX1_settle 6 = .ok (.invokevirtual 107, 3) := by decide +kernel
theorem dX1_settle_9 : decode cX1_settle 9 = .ok (.invokevirtual 110, 3) := by decide +kernel
theorem dX1_settle_12 : decode cX1_settle 12 = .ok (.istore_n 2, 1) := by decide +kernel
theorem dX1_settle_13 : decode cX1_settle 13 = .ok (.iconst 0, 1) := by decide +kernel
theorem dX1_settle_14 : decode cX1_settle 14 = .ok (.istore_n 3, 1) := by decide +kernel
theorem dX1_settle_15 : decode cX1_settle 15 = .ok (.iload_n 3, 1) := by decide +kernel
theorem dX1_settle_16 : decode cX1_settle 16 = .ok (.aload_n 0, 1) := by decide +kernel
theorem dX1_settle_17 : decode cX1_settle 17 = .ok (.getfield 9, 3) := by decide +kernel
theorem dX1_settle_20 : decode cX1_settle 20 = .ok (.if_icmp .ge 43, 3) := by decide +kernel
theorem dX1_settle_23 : decode cX1_settle 23 = .ok (.iload_n 3, 1) := by decide +kernel
theorem dX1_settle_24 : decode cX1_settle 24 = .ok (.iconst 4, 1) := by decide +kernel
theorem dX1_settle_25 : decode cX1_settle 25 = .ok (.if_icmp .ge 38, 3) := by decide +kernel
theorem dX1_settle_28 : decode cX1_settle 28 = .ok (.aload_n 0, 1) := by decide +kernel
theorem dX1_settle_29 : decode cX1_settle 29 = .ok (.getfield 19, 3) := by decide +kernel
theorem dX1_settle_32 : decode cX1_settle 32 = .ok (.iload_n 3, 1) := by decide +kernel
theorem dX1_settle_33 : decode cX1_settle 33 = .ok (.iaload, 1) := by decide +kernel
theorem dX1_settle_34 : decode cX1_settle 34 = .ok (.iconst 2, 1) := by decide +kernel
theorem dX1_settle_35 : decode cX1_settle 35 = .ok (.if_icmp .ne 22, 3) := by decide +kernel
theorem dX1_settle_38 : decode cX1_settle 38 = .ok (.aload_n 0, 1) := by decide +kernel
theorem dX1_settle_39 : decode cX1_settle 39 = .ok (.getfield 23, 3) := by decide +kernel
theorem dX1_settle_42 : decode cX1_settle 42 = .ok (.iload_n 3, 1) := by decide +kernel
theorem dX1_settle_43 : decode cX1_settle 43 = .ok (.iaload, 1) := by decide +kernel
theorem dX1_settle_44 : decode cX1_settle 44 = .ok (.iload_n 2, 1) := by decide +kernel
theorem dX1_settle_45 : decode cX1_settle 45 = .ok (.iconst 1, 1) := by decide +kernel
theorem dX1_settle_46 : decode cX1_settle 46 = .ok (.ishr, 1) := by decide +kernel
theorem dX1_settle_47 : decode cX1_settle 47 = .ok (.if_icmp .ne 10, 3) := by decide +kernel
theorem dX1_settle_50 : decode cX1_settle 50 = .ok (.aload_n 0, 1) := by decide +kernel
theorem dX1_settle_51 : decode cX1_settle 51 = .ok (.iload_n 2, 1) := by decide +kernel
theorem dX1_settle_52 : decode cX1_settle 52 = .ok (.iload_n 3, 1) := by decide +kernel
theorem dX1_settle_53 : decode cX1_settle 53 = .ok (.invokevirtual 110, 3) := by decide +kernel
theorem dX1_settle_56 : decode cX1_settle 56 = .ok (.istore_n 2, 1) := by decide +kernel
theorem dX1_settle_57 : decode cX1_settle 57 = .ok (.iinc 3 1, 3) := by decide +kernel
theorem dX1_settle_60 : decode cX1_settle 60 = .ok (.goto (-45), 3) := by decide +kernel
theorem dX1_settle_63 : decode cX1_settle 63 = .ok (.iload_n 2, 1) := by decide +kernel
theorem dX1_settle_64 : decode cX1_settle 64 = .ok (.ireturn, 1) := by decide +kernel
def fX1_settle_57 (k15 : PH → Nat → Int32 → Int32 → Option (Int32 × PH)) (g : PH) (v0 : Nat) (v2 : Int32) (v3 : Int32) : Option (Int32 × PH) :=
  k15 g v0 v2 (v3 + (1 : Int32))
set_option maxHeartbeats 4000000 in
set_option maxRecDepth 100000 in
theorem bX1_settle_57 {K : HK} {E : HE} {r : Int32} {g' : PH} {k15 : PH → Nat → Int32 → Int32 → Option (Int32 × PH)} (C : VC K E 4 cX1_settle RX1 (some .int)) (hk15 : ∀ (g : PH) (v0 : Nat) (v2 : Int32) (v3 : Int32), k15 g v0 v2 v3 = some (r, g') → V K E (hRm 1 24 0 0) 4 (hZ K E (some (.int r)) g' 0 0) 0 0 (kS K) g 15 [(0, .ref v0), (2, .int v2), (3, .int v3)] []) {g : PH} {v0 : Nat} {v2 : Int32} {v3 : Int32} (hf : fX1_settle_57 k15 g v0 v2 v3 = some (r, g')) : V K E (hRm 1 24 0 0) 4 (hZ K E (some (.int r)) g' 0 0) 0 0 (kS K) g 57 [(0, .ref v0), (2, .int v2), (3, .int v3)] [] := by
  unfold fX1_settle_57 at hf
  refine V.iinc (pc := 57) (v := (v3 + (1 : Int32))) (L' := [(3, .int (v3 + (1 : Int32))), (0, .ref v0), (2, .int v2)]) C dX1_settle_57 2 rfl rfl (by decide) rfl ?_
  refine V.goto (pc := 60) (t := 15) C dX1_settle_60 (by decide) ?_
  refine V.sub (L' := [(0, .ref v0), (2, .int v2), (3, .int (v3 + (1 : Int32)))]) [1, 2, 0] rfl ?_
  exact hk15 _ _ _ _ hf
def fX1_settle_15  : Nat → PH → Nat → Int32 → Int32 → Option (Int32 × PH)
  | 0, _, _, _, _ => none
  | n + 1, g, v0, v2, v3 =>
  (getI g v0 1 0).bind fun x1 =>
  (if x1 ≤ v3 then (some (v2, g)) else
  (if (4 : Int32) ≤ v3 then (some (v2, g)) else
  ((getR g v0 1 2).bind fun p5 =>
  ((ldI g p5 0 v3).bind fun x7 =>
  (if x7 = (2 : Int32) then ((getR g v0 1 3).bind fun p10 =>
  ((ldI g p10 0 v3).bind fun x12 =>
  (if x12 = (v2 >>> ((1 : Int32) &&& 31)) then ((fX1_affected g v0 v2 v3).bind fun q15 =>
  (fX1_settle_57 (fX1_settle_15 n) q15.2 v0 q15.1 v3)) else
  (fX1_settle_57 (fX1_settle_15 n) g v0 v2 v3)))) else
  (fX1_settle_57 (fX1_settle_15 n) g v0 v2 v3))))))
set_option maxHeartbeats 4000000 in
set_option maxRecDepth 100000 in
theorem bX1_settle_15 {K : HK} {E : HE} {r : Int32} {g' : PH}  (C : VC K E 4 cX1_settle RX1 (some .int))  : ∀ (n : Nat) (g : PH) (v0 : Nat) (v2 : Int32) (v3 : Int32), fX1_settle_15  n g v0 v2 v3 = some (r, g') → V K E (hRm 1 24 0 0) 4 (hZ K E (some (.int r)) g' 0 0) 0 0 (kS K) g 15 [(0, .ref v0), (2, .int v2), (3, .int v3)] [] := by
  intro n
  induction n with
  | zero =>
    intro g v0 v2 v3 hf
    rw [fX1_settle_15] at hf
    cases hf
  | succ n ih =>
    intro g v0 v2 v3 hf
    rw [fX1_settle_15] at hf
    refine V.iload_n (pc := 15) C dX1_settle_15 2 rfl ?_
    refine V.aload_n (pc := 16) C dX1_settle_16 0 rfl ?_
    replace hf := ob_some hf
    obtain ⟨x1, h2, hf⟩ := hf
    refine V.getI (pc := 17) C kX1 (k := 0) (by decide) wd_246 h2 dX1_settle_17 ?_
    refine V.icmp_ge (pc := 20) (t := 63) C dX1_settle_20 (by decide) (fun c3 => ?_) (fun c3 => ?_)
    · replace hf := ite_t c3 hf
      refine V.iload_n (pc := 63) C dX1_settle_63 1 rfl ?_
      obtain ⟨f1, f2⟩ := fin2 hf
      clear hf
      subst f1
      subst f2
      exact V.iret (pc := 64) C rfl dX1_settle_64
    replace hf := ite_f c3 hf
    refine V.iload_n (pc := 23) C dX1_settle_23 2 rfl ?_
    refine V.iconst (pc := 24) C dX1_settle_24 (v := (4 : Int32)) (by decide) ?_
    refine V.icmp_ge (pc := 25) (t := 63) C dX1_settle_25 (by decide) (fun c4 => ?_) (fun c4 => ?_)
    · replace hf := ite_t c4 hf
      refine V.iload_n (pc := 63) C dX1_settle_63 1 rfl ?_
      obtain ⟨f1, f2⟩ := fin2 hf
      clear hf
      subst f1
      subst f2
      exact V.iret (pc := 64) C rfl dX1_settle_64
    replace hf := ite_f c4 hf
    refine V.aload_n (pc := 28) C dX1_settle_28 0 rfl ?_
    replace hf := ob_some hf
    obtain ⟨p5, h6, hf⟩ := hf
    refine V.getR (pc := 29) C kX1 (k := 2) (by decide) wd_250 h6 dX1_settle_29 ?_
    refine V.iload_n (pc := 32) C dX1_settle_32 2 rfl ?_
    replace hf := ob_some hf
    obtain ⟨x7, h8, hf⟩ := hf
    refine V.iald (pc := 33) C h8 dX1_settle_33 ?_
    refine V.iconst (pc := 34) C dX1_settle_34 (v := (2 : Int32)) (by decide) ?_
    refine V.icmp_ne (pc := 35) (t := 57) C dX1_settle_35 (by decide) (fun c9 => ?_) (fun c9 => ?_)
    · replace hf := ite_f c9 hf
      refine V.sub (L' := [(0, .ref v0), (2, .int v2), (3, .int v3)]) [0, 1, 2] rfl ?_
      exact bX1_settle_57 C ih hf
    replace hf := ite_t c9 hf
    refine V.aload_n (pc := 38) C dX1_settle_38 0 rfl ?_
    replace hf := ob_some hf
    obtain ⟨p10, h11, hf⟩ := hf
    refine V.getR (pc := 39) C kX1 (k := 3) (by decide) wd_251 h11 dX1_settle_39 ?_
    refine V.iload_n (pc := 42) C dX1_settle_42 2 rfl ?_
    replace hf := ob_some hf
    obtain ⟨x12, h13, hf⟩ := hf
    refine V.iald (pc := 43) C h13 dX1_settle_43 ?_
    refine V.iload_n (pc := 44) C dX1_settle_44 1 rfl ?_
    refine V.iconst (pc := 45) C dX1_settle_45 (v := (1 : Int32)) (by decide) ?_
    refine V.ishr (pc := 46) C dX1_settle_46 ?_
    refine V.icmp_ne (pc := 47) (t := 57) C dX1_settle_47 (by decide) (fun c14 => ?_) (fun c14 => ?_)
    · replace hf := ite_f c14 hf
      refine V.sub (L' := [(0, .ref v0), (2, .int v2), (3, .int v3)]) [0, 1, 2] rfl ?_
      exact bX1_settle_57 C ih hf
    replace hf := ite_t c14 hf
    refine V.aload_n (pc := 50) C dX1_settle_50 0 rfl ?_
    refine V.iload_n (pc := 51) C dX1_settle_51 1 rfl ?_
    refine V.iload_n (pc := 52) C dX1_settle_52 2 rfl ?_
    replace hf := ob_some hf
    obtain ⟨q15, h16, hf⟩ := hf
    refine V.callV0i (pc := 53) C hyX1_affected wd_415 (mX1_affected (r := q15.1) (g' := q15.2) K.2.1 E (kS K) h16) rfl rfl rfl (oX1_affected h16) ⟨Nat.le_of_ble_eq_true rfl, Nat.le_of_ble_eq_true rfl⟩ (Nat.le_of_ble_eq_true rfl) dX1_settle_53 ⟨Nat.zero_le _, Nat.zero_le _⟩ rfl ?_
    refine V.istore_n (pc := 56) (L' := [(2, .int q15.1), (0, .ref v0), (3, .int v3)]) C dX1_settle_56 (by decide) rfl ?_
    refine V.sub (L' := [(0, .ref v0), (2, .int q15.1), (3, .int v3)]) [1, 0, 2] rfl ?_
    exact bX1_settle_57 C ih hf
def fX1_settle (g : PH) (a0 : Nat) (a1 : Int32) : Option (Int32 × PH) :=
  okb (isO g a0 1) ((fX1_firstRule g a0 (3 : Int32) (0 : Int32) (0 : Int32)).bind fun q1 =>
  ((fX1_affected q1.2 a0 a1 q1.1).bind fun q3 =>
  (fX1_settle_15 FUEL q3.2 a0 q3.1 (0 : Int32))))
theorem oX1_settle {g : PH} {a0 : Nat} {a1 : Int32} {q : (Int32 × PH)} (h : fX1_settle g a0 a1 = some q) : isO g a0 1 = true := by unfold fX1_settle at h; exact (okb_some h).1
theorem hyX1_settle : hMet yX1_settle RX1 cX1_settle 4 (some .int) 1 := ⟨wd_410, wd_409, ws_4, wd_8, rfl, by decide +kernel, by decide +kernel, by decide +kernel⟩
set_option maxHeartbeats 4000000 in
set_option maxRecDepth 100000 in
theorem mX1_settle (l : Launch) (E : HE) (sz : Nat) {g g' : PH} {a0 : Nat} {a1 : Int32} {r : Int32} (hf : fX1_settle g a0 a1 = some (r, g')) : hM l E yX1_settle cX1_settle 4 (some .int) 1 24 0 0 sz g [.ref a0, .int a1] (some (.int r)) g' := by
  refine hM.of (by decide) (Nat.le_of_ble_eq_true rfl) (fun K hl C hin hsz => ?_)
  subst hl
  subst hsz
  have C : VC K E 4 cX1_settle RX1 (some .int) := C
  unfold fX1_settle at hf
  replace hf := okb_some hf
  obtain ⟨ho, hf⟩ := hf
  refine V.start (L' := [(0, .ref a0), (1, .int a1)]) rfl ?_
  refine V.aload_n (pc := 0) C dX1_settle_0 0 rfl ?_
  refine V.iload_n (pc := 1) C dX1_settle_1 1 rfl ?_
  refine V.aload_n (pc := 2) C dX1_settle_2 0 rfl ?_
  refine V.iconst (pc := 3) C dX1_settle_3 (v := (3 : Int32)) (by decide) ?_
  refine V.iconst (pc := 4) C dX1_settle_4 (v := (0 : Int32)) (by decide) ?_
  refine V.iconst (pc := 5) C dX1_settle_5 (v := (0 : Int32)) (by decide) ?_
  replace hf := ob_some hf
  obtain ⟨q1, h2, hf⟩ := hf
  refine V.callV0i (pc := 6) C hyX1_firstRule wd_411 (mX1_firstRule (r := q1.1) (g' := q1.2) K.2.1 E (kS K) h2) rfl rfl rfl (oX1_firstRule h2) ⟨Nat.le_of_ble_eq_true rfl, Nat.le_of_ble_eq_true rfl⟩ (Nat.le_of_ble_eq_true rfl) dX1_settle_6 ⟨Nat.zero_le _, Nat.zero_le _⟩ rfl ?_
  replace hf := ob_some hf
  obtain ⟨q3, h4, hf⟩ := hf
  refine V.callV0i (pc := 9) C hyX1_affected wd_415 (mX1_affected (r := q3.1) (g' := q3.2) K.2.1 E (kS K) h4) rfl rfl rfl (oX1_affected h4) ⟨Nat.le_of_ble_eq_true rfl, Nat.le_of_ble_eq_true rfl⟩ (Nat.le_of_ble_eq_true rfl) dX1_settle_9 ⟨Nat.zero_le _, Nat.zero_le _⟩ rfl ?_
  refine V.istore_n (pc := 12) (L' := [(2, .int q3.1), (0, .ref a0), (1, .int a1)]) C dX1_settle_12 (by decide) rfl ?_
  refine V.iconst (pc := 13) C dX1_settle_13 (v := (0 : Int32)) (by decide) ?_
  refine V.istore_n (pc := 14) (L' := [(3, .int (0 : Int32)), (2, .int q3.1), (0, .ref a0), (1, .int a1)]) C dX1_settle_14 (by decide) rfl ?_
  refine V.sub (L' := [(0, .ref a0), (2, .int q3.1), (3, .int (0 : Int32))]) [2, 1, 0] rfl ?_
  exact bX1_settle_15 C  _ _ _ _ _ hf
theorem dX1_readOne_0 : decode cX1_readOne 0 = .ok (.iload_n 2, 1) := by decide +kernel
theorem dX1_readOne_1 : decode cX1_readOne 1 = .ok (.iload_n 1, 1) := by decide +kernel
theorem dX1_readOne_2 : decode cX1_readOne 2 = .ok (.ishr, 1) := by decide +kernel
theorem dX1_readOne_3 : decode cX1_readOne 3 = .ok (.iconst 1, 1) := by decide +kernel
theorem dX1_readOne_4 : decode cX1_readOne 4 = .ok (.iand, 1) := by decide +kernel
theorem dX1_readOne_5 : decode cX1_readOne 5 = .ok (.istore_n 3, 1) := by decide +kernel
theorem dX1_readOne_6 : decode cX1_readOne 6 = .ok (.aload_n 0, 1) := by decide +kernel
theorem dX1_readOne_7 : decode cX1_readOne 7 = .ok (.iload_n 1, 1) := by decide +kernel
theorem dX1_readOne_8 : decode cX1_readOne 8 = .ok (.ifCond .ne 8, 3) := by decide +kernel
theorem dX1_readOne_11 : decode cX1_readOne 11 = .ok (.bipush 7, 2) := by decide +kernel
theorem dX1_readOne_13 : decode cX1_readOne 13 = .ok (.goto 5, 3) := by decide +kernel
theorem dX1_readOne_16 : decode cX1_readOne 16 = .ok (.bipush 8, 2) := by decide +kernel
theorem dX1_readOne_18 : decode cX1_readOne 18 = .ok (.iload_n 3, 1) := by decide +kernel
theorem dX1_readOne_19 : decode cX1_readOne 19 = .ok (.iconst 0, 1) := by decide +kernel
theorem dX1_readOne_20 : decode cX1_readOne 20 = .ok (.invokevirtual 107, 3) := by decide +kernel
theorem dX1_readOne_23 : decode cX1_readOne 23 = .ok (.istore 4, 2) := by decide +kernel
theorem dX1_readOne_25 : decode cX1_readOne 25 = .ok (.iload 4, 2) := by decide +kernel
theorem dX1_readOne_27 : decode cX1_readOne 27 = .ok (.iconst (-1), 1) := by decide +kernel
theorem dX1_readOne_28 : decode cX1_readOne 28 = .ok (.if_icmp .eq 17, 3) := by decide +kernel
theorem dX1_readOne_31 : decode cX1_readOne 31 = .ok (.iload_n 1, 1) := by decide +kernel
theorem dX1_readOne_32 : decode cX1_readOne 32 = .ok (.ifCond .ne 13, 3) := by decide +kernel
theorem dX1_readOne_35 : decode cX1_readOne 35 = .ok (.aload_n 0, 1) := by decide +kernel
theorem dX1_readOne_36 : decode cX1_readOne 36 = .ok (.getfield 32, 3) := by decide +kernel
theorem dX1_readOne_39 : decode cX1_readOne 39 = .ok (.iload 4, 2) := by decide +kernel
theorem dX1_readOne_41 : decode cX1_readOne 41 = .ok (.iaload, 1) := by decide +kernel
theorem dX1_readOne_42 : decode cX1_readOne 42 = .ok (.goto 4, 3) := by decide +kernel
theorem dX1_readOne_45 : decode cX1_readOne 45 = .ok (.iload_n 3, 1) := by decide +kernel
theorem dX1_readOne_46 : decode cX1_readOne 46 = .ok (.istore 5, 2) := by decide +kernel
theorem dX1_readOne_48 : decode cX1_readOne 48 = .ok (.aload_n 0, 1) := by decide +kernel
theorem dX1_readOne_49 : decode cX1_readOne 49 = .ok (.aload_n 0, 1) := by decide +kernel
theorem dX1_readOne_50 : decode cX1_readOne 50 = .ok (.iload_n 2, 1) := by decide +kernel
theorem dX1_readOne_51 : decode cX1_readOne 51 = .ok (.iload 4, 2) := by decide +kernel
theorem dX1_readOne_53 : decode cX1_readOne 53 = .ok (.invokevirtual 110, 3) := by decide +kernel
theorem dX1_readOne_56 : decode cX1_readOne 56 = .ok (.invokevirtual 84, 3) := by decide +kernel
theorem dX1_readOne_59 : decode cX1_readOne 59 = .ok (.iload 5, 2) := by decide +kernel
theorem dX1_readOne_61 : decode cX1_readOne 61 = .ok (.iconst 2, 1) := by decide +kernel
theorem dX1_readOne_62 : decode cX1_readOne 62 = .ok (.ishl, 1) := by decide +kernel
theorem dX1_readOne_63 : decode cX1_readOne 63 = .ok (.ior, 1) := by decide +kernel
theorem dX1_readOne_64 : decode cX1_readOne 64 = .ok (.ireturn, 1) := by decide +kernel
def fX1_readOne_46  (g : PH) (v0 : Nat) (v2 : Int32) (v4 : Int32) (s0 : Int32) : Option (Int32 × PH) :=
  (fX1_affected g v0 v2 v4).bind fun q1 =>
  ((fX1_settle q1.2 v0 q1.1).bind fun q3 =>
  (some ((q3.1 ||| (s0 <<< ((2 : Int32) &&& 31))), q3.2)))
set_option maxHeartbeats 4000000 in
set_option maxRecDepth 100000 in
theorem bX1_readOne_46 {K : HK} {E : HE} {r : Int32} {g' : PH}  (C : VC K E 6 cX1_readOne RX1 (some .int))  {g : PH} {v0 : Nat} {v2 : Int32} {v4 : Int32} {s0 : Int32} (hf : fX1_readOne_46  g v0 v2 v4 s0 = some (r, g')) : V K E (hRm 2 47 0 0) 6 (hZ K E (some (.int r)) g' 0 0) 0 0 (kS K) g 46 [(0, .ref v0), (2, .int v2), (4, .int v4)] [.int s0] := by
  unfold fX1_readOne_46 at hf
  refine V.istore (pc := 46) (L' := [(5, .int s0), (0, .ref v0), (2, .int v2), (4, .int v4)]) C dX1_readOne_46 (by decide) rfl ?_
  refine V.aload_n (pc := 48) C dX1_readOne_48 1 rfl ?_
  refine V.aload_n (pc := 49) C dX1_readOne_49 1 rfl ?_
  refine V.iload_n (pc := 50) C dX1_readOne_50 2 rfl ?_
  refine V.iload (pc := 51) C dX1_readOne_51 3 rfl ?_
  replace hf := ob_some hf
  obtain ⟨q1, h2, hf⟩ := hf
  refine V.callV0i (pc := 53) C hyX1_affected wd_415 (mX1_affected (r := q1.1) (g' := q1.2) K.2.1 E (kS K) h2) rfl rfl rfl (oX1_affected h2) ⟨Nat.le_of_ble_eq_true rfl, Nat.le_of_ble_eq_true rfl⟩ (Nat.le_of_ble_eq_true rfl) dX1_readOne_53 ⟨Nat.zero_le _, Nat.zero_le _⟩ rfl ?_
  replace hf := ob_some hf
  obtain ⟨q3, h4, hf⟩ := hf
  refine V.callV0i (pc := 56) C hyX1_settle wd_407 (mX1_settle (r := q3.1) (g' := q3.2) K.2.1 E (kS K) h4) rfl rfl rfl (oX1_settle h4) ⟨Nat.le_of_ble_eq_true rfl, Nat.le_of_ble_eq_true rfl⟩ (Nat.le_of_ble_eq_true rfl) dX1_readOne_56 ⟨Nat.zero_le _, Nat.zero_le _⟩ rfl ?_
  refine V.iload (pc := 59) C dX1_readOne_59 0 rfl ?_
  refine V.iconst (pc := 61) C dX1_readOne_61 (v := (2 : Int32)) (by decide) ?_
  refine V.ishl (pc := 62) C dX1_readOne_62 ?_
  refine V.ior (pc := 63) C dX1_readOne_63 ?_
  obtain ⟨f1, f2⟩ := fin2 hf
  clear hf
  subst f1
  subst f2
  exact V.iret (pc := 64) C rfl dX1_readOne_64
def fX1_readOne_45  (g : PH) (v0 : Nat) (v2 : Int32) (v3 : Int32) (v4 : Int32) : Option (Int32 × PH) :=
  fX1_readOne_46 g v0 v2 v4 v3
set_option maxHeartbeats 4000000 in
set_option maxRecDepth 100000 in
theorem bX1_readOne_45 {K : HK} {E : HE} {r : Int32} {g' : PH}  (C : VC K E 6 cX1_readOne RX1 (some .int))  {g : PH} {v0 : Nat} {v2 : Int32} {v3 : Int32} {v4 : Int32} (hf : fX1_readOne_45  g v0 v2 v3 v4 = some (r, g')) : V K E (hRm 2 47 0 0) 6 (hZ K E (some (.int r)) g' 0 0) 0 0 (kS K) g 45 [(0, .ref v0), (2, .int v2), (3, .int v3), (4, .int v4)] [] := by
  unfold fX1_readOne_45 at hf
  refine V.iload_n (pc := 45) C dX1_readOne_45 2 rfl ?_
  refine V.sub (L' := [(0, .ref v0), (2, .int v2), (4, .int v4)]) [0, 1, 3] rfl ?_
  exact bX1_readOne_46 C  hf
def fX1_readOne_18  (g : PH) (v0 : Nat) (v1 : Int32) (v2 : Int32) (v3 : Int32) (s0 : Int32) (s1 : Nat) : Option (Int32 × PH) :=
  (fX1_firstRule g s1 s0 v3 (0 : Int32)).bind fun q1 =>
  (if q1.1 = (-1 : Int32) then (fX1_readOne_45 q1.2 v0 v2 v3 q1.1) else
  (if v1 = 0 then ((getR q1.2 v0 1 6).bind fun p5 =>
  ((ldI q1.2 p5 0 q1.1).bind fun x7 =>
  (fX1_readOne_46 q1.2 v0 v2 q1.1 x7))) else
  (fX1_readOne_45 q1.2 v0 v2 v3 q1.1)))
set_option maxHeartbeats 4000000 in
set_option maxRecDepth 100000 in
theorem bX1_readOne_18 {K : HK} {E : HE} {r : Int32} {g' : PH}  (C : VC K E 6 cX1_readOne RX1 (some .int))  {g : PH} {v0 : Nat} {v1 : Int32} {v2 : Int32} {v3 : Int32} {s0 : Int32} {s1 : Nat} (hf : fX1_readOne_18  g v0 v1 v2 v3 s0 s1 = some (r, g')) : V K E (hRm 2 47 0 0) 6 (hZ K E (some (.int r)) g' 0 0) 0 0 (kS K) g 18 [(0, .ref v0), (1, .int v1), (2, .int v2), (3, .int v3)] [.int s0, .ref s1] := by
  unfold fX1_readOne_18 at hf
  refine V.iload_n (pc := 18) C dX1_readOne_18 3 rfl ?_
  refine V.iconst (pc := 19) C dX1_readOne_19 (v := (0 : Int32)) (by decide) ?_
  replace hf := ob_some hf
  obtain ⟨q1, h2, hf⟩ := hf
  refine V.callV0i (pc := 20) C hyX1_firstRule wd_411 (mX1_firstRule (r := q1.1) (g' := q1.2) K.2.1 E (kS K) h2) rfl rfl rfl (oX1_firstRule h2) ⟨Nat.le_of_ble_eq_true rfl, Nat.le_of_ble_eq_true rfl⟩ (Nat.le_of_ble_eq_true rfl) dX1_readOne_20 ⟨Nat.zero_le _, Nat.zero_le _⟩ rfl ?_
  refine V.istore (pc := 23) (L' := [(4, .int q1.1), (0, .ref v0), (1, .int v1), (2, .int v2), (3, .int v3)]) C dX1_readOne_23 (by decide) rfl ?_
  refine V.iload (pc := 25) C dX1_readOne_25 0 rfl ?_
  refine V.iconst (pc := 27) C dX1_readOne_27 (v := (-1 : Int32)) (by decide) ?_
  refine V.icmp_eq (pc := 28) (t := 45) C dX1_readOne_28 (by decide) (fun c3 => ?_) (fun c3 => ?_)
  · replace hf := ite_t c3 hf
    refine V.sub (L' := [(0, .ref v0), (2, .int v2), (3, .int v3), (4, .int q1.1)]) [1, 3, 4, 0] rfl ?_
    exact bX1_readOne_45 C  hf
  replace hf := ite_f c3 hf
  refine V.iload_n (pc := 31) C dX1_readOne_31 2 rfl ?_
  refine V.if_ne (pc := 32) (t := 45) C dX1_readOne_32 (by decide) (fun c4 => ?_) (fun c4 => ?_)
  · replace hf := ite_f c4 hf
    refine V.sub (L' := [(0, .ref v0), (2, .int v2), (3, .int v3), (4, .int q1.1)]) [1, 3, 4, 0] rfl ?_
    exact bX1_readOne_45 C  hf
  replace hf := ite_t c4 hf
  refine V.aload_n (pc := 35) C dX1_readOne_35 1 rfl ?_
  replace hf := ob_some hf
  obtain ⟨p5, h6, hf⟩ := hf
  refine V.getR (pc := 36) C kX1 (k := 6) (by decide) wd_254 h6 dX1_readOne_36 ?_
  refine V.iload (pc := 39) C dX1_readOne_39 0 rfl ?_
  replace hf := ob_some hf
  obtain ⟨x7, h8, hf⟩ := hf
  refine V.iald (pc := 41) C h8 dX1_readOne_41 ?_
  refine V.goto (pc := 42) (t := 46) C dX1_readOne_42 (by decide) ?_
  refine V.sub (L' := [(0, .ref v0), (2, .int v2), (4, .int q1.1)]) [1, 3, 0] rfl ?_
  exact bX1_readOne_46 C  hf
def fX1_readOne (g : PH) (a0 : Nat) (a1 : Int32) (a2 : Int32) : Option (Int32 × PH) :=
  okb (isO g a0 1) (if a1 = 0 then (fX1_readOne_18 g a0 a1 a2 ((a2 >>> (a1 &&& 31)) &&& (1 : Int32)) (7 : Int32) a0) else
  (fX1_readOne_18 g a0 a1 a2 ((a2 >>> (a1 &&& 31)) &&& (1 : Int32)) (8 : Int32) a0))
theorem oX1_readOne {g : PH} {a0 : Nat} {a1 : Int32} {a2 : Int32} {q : (Int32 × PH)} (h : fX1_readOne g a0 a1 a2 = some q) : isO g a0 1 = true := by unfold fX1_readOne at h; exact (okb_some h).1
theorem hyX1_readOne : hMet yX1_readOne RX1 cX1_readOne 6 (some .int) 2 := ⟨wd_430, wd_429, ws_9, wd_8, rfl, by decide +kernel, by decide +kernel, by decide +kernel⟩
set_option maxHeartbeats 4000000 in
set_option maxRecDepth 100000 in
theorem mX1_readOne (l : Launch) (E : HE) (sz : Nat) {g g' : PH} {a0 : Nat} {a1 : Int32} {a2 : Int32} {r : Int32} (hf : fX1_readOne g a0 a1 a2 = some (r, g')) : hM l E yX1_readOne cX1_readOne 6 (some .int) 2 47 0 0 sz g [.ref a0, .int a1, .int a2] (some (.int r)) g' := by
  refine hM.of (by decide) (Nat.le_of_ble_eq_true rfl) (fun K hl C hin hsz => ?_)
  subst hl
  subst hsz
  have C : VC K E 6 cX1_readOne RX1 (some .int) := C
  unfold fX1_readOne at hf
  replace hf := okb_some hf
  obtain ⟨ho, hf⟩ := hf
  refine V.start (L' := [(0, .ref a0), (1, .int a1), (2, .int a2)]) rfl ?_
  refine V.iload_n (pc := 0) C dX1_readOne_0 2 rfl ?_
  refine V.iload_n (pc := 1) C dX1_readOne_1 1 rfl ?_
  refine V.ishr (pc := 2) C dX1_readOne_2 ?_
  refine V.iconst (pc := 3) C dX1_readOne_3 (v := (1 : Int32)) (by decide) ?_
  refine V.iand (pc := 4) C dX1_readOne_4 ?_
  refine V.istore_n (pc := 5) (L' := [(3, .int ((a2 >>> (a1 &&& 31)) &&& (1 : Int32))), (0, .ref a0), (1, .int a1), (2, .int a2)]) C dX1_readOne_5 (by decide) rfl ?_
  refine V.aload_n (pc := 6) C dX1_readOne_6 1 rfl ?_
  refine V.iload_n (pc := 7) C dX1_readOne_7 2 rfl ?_
  refine V.if_ne (pc := 8) (t := 16) C dX1_readOne_8 (by decide) (fun c1 => ?_) (fun c1 => ?_)
  · replace hf := ite_f c1 hf
    refine V.bipush (pc := 16) C dX1_readOne_16 (v := (8 : Int32)) (by decide) ?_
    refine V.sub (L' := [(0, .ref a0), (1, .int a1), (2, .int a2), (3, .int ((a2 >>> (a1 &&& 31)) &&& (1 : Int32)))]) [1, 2, 3, 0] rfl ?_
    exact bX1_readOne_18 C  hf
  replace hf := ite_t c1 hf
  refine V.bipush (pc := 11) C dX1_readOne_11 (v := (7 : Int32)) (by decide) ?_
  refine V.goto (pc := 13) (t := 18) C dX1_readOne_13 (by decide) ?_
  refine V.sub (L' := [(0, .ref a0), (1, .int a1), (2, .int a2), (3, .int ((a2 >>> (a1 &&& 31)) &&& (1 : Int32)))]) [1, 2, 3, 0] rfl ?_
  exact bX1_readOne_18 C  hf
