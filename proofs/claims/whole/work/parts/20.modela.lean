theorem dX9_begins_0 : decode cX9_begins 0 = .ok (.aload_n 0, 1) := by decide +kernel
theorem dX9_begins_1 : decode cX9_begins 1 = .ok (.iload_n 1, 1) := by decide +kernel
theorem dX9_begins_2 : decode cX9_begins 2 = .ok (.putfield 180, 3) := by decide +kernel
theorem dX9_begins_5 : decode cX9_begins 5 = .ok (.iconst 0, 1) := by decide +kernel
theorem dX9_begins_6 : decode cX9_begins 6 = .ok (.istore_n 2, 1) := by decide +kernel
theorem dX9_begins_7 : decode cX9_begins 7 = .ok (.iload_n 2, 1) := by decide +kernel
theorem dX9_begins_8 : decode cX9_begins 8 = .ok (.sipush 133, 3) := by decide +kernel
theorem dX9_begins_11 : decode cX9_begins 11 = .ok (.if_icmp .ge 16, 3) := by decide +kernel
theorem dX9_begins_14 : decode cX9_begins 14 = .ok (.aload_n 0, 1) := by decide +kernel
theorem dX9_begins_15 : decode cX9_begins 15 = .ok (.getfield 32, 3) := by decide +kernel
theorem dX9_begins_18 : decode cX9_begins 18 = .ok (.iload_n 2, 1) := by decide +kernel
theorem dX9_begins_19 : decode cX9_begins 19 = .ok (.iconst 0, 1) := by decide +kernel
theorem dX9_begins_20 : decode cX9_begins 20 = .ok (.iastore, 1) := by decide +kernel
theorem dX9_begins_21 : decode cX9_begins 21 = .ok (.iinc 2 1, 3) := by decide +kernel
theorem dX9_begins_24 : decode cX9_begins 24 = .ok (.goto (-17), 3) := by decide +kernel
theorem dX9_begins_27 : decode cX9_begins 27 = .ok (.aload_n 0, 1) := by decide +kernel
theorem dX9_begins_28 : decode cX9_begins 28 = .ok (.getfield 32, 3) := by decide +kernel
theorem dX9_begins_31 : decode cX9_begins 31 = .ok (.iconst 1, 1) := by decide +kernel
theorem dX9_begins_32 : decode cX9_begins 32 = .ok (.iconst (-1), 1) := by decide +kernel
theorem dX9_begins_33 : decode cX9_begins 33 = .ok (.iastore, 1) := by decide +kernel
theorem dX9_begins_34 : decode cX9_begins 34 = .ok (.aload_n 0, 1) := by decide +kernel
theorem dX9_begins_35 : decode cX9_begins 35 = .ok (.getfield 32, 3) := by decide +kernel
theorem dX9_begins_38 : decode cX9_begins 38 = .ok (.iconst 2, 1) := by decide +kernel
theorem dX9_begins_39 : decode cX9_begins 39 = .ok (.iconst (-1), 1) := by decide +kernel
theorem dX9_begins_40 : decode cX9_begins 40 = .ok (.iastore, 1) := by decide +kernel
theorem dX9_begins_41 : decode cX9_begins 41 = .ok (.aload_n 0, 1) := by decide +kernel
theorem dX9_begins_42 : decode cX9_begins 42 = .ok (.getfield 32, 3) := by decide +kernel
theorem dX9_begins_45 : decode cX9_begins 45 = .ok (.iconst 3, 1) := by decide +kernel
theorem dX9_begins_46 : decode cX9_begins 46 = .ok (.iconst (-1), 1) := by decide +kernel
theorem dX9_begins_47 : decode cX9_begins 47 = .ok (.iastore, 1) := by decide +kernel
theorem dX9_begins_48 : decode cX9_begins 48 = .ok (.aload_n 0, 1) := by decide +kernel
theorem dX9_begins_49 : decode cX9_begins 49 = .ok (.getfield 32, 3) := by decide +kernel
theorem dX9_begins_52 : decode cX9_begins 52 = .ok (.bipush 10, 2) := by decide +kernel
theorem dX9_begins_54 : decode cX9_begins 54 = .ok (.iconst (-1), 1) := by decide +kernel
theorem dX9_begins_55 : decode cX9_begins 55 = .ok (.iastore, 1) := by decide +kernel
theorem dX9_begins_56 : decode cX9_begins 56 = .ok (.aload_n 0, 1) := by decide +kernel
theorem dX9_begins_57 : decode cX9_begins 57 = .ok (.getfield 32, 3) := by decide +kernel
theorem dX9_begins_60 : decode cX9_begins 60 = .ok (.bipush 12, 2) := by decide +kernel
theorem dX9_begins_62 : decode cX9_begins 62 = .ok (.iconst (-1), 1) := by decide +kernel
theorem dX9_begins_63 : decode cX9_begins 63 = .ok (.iastore, 1) := by decide +kernel
theorem dX9_begins_64 : decode cX9_begins 64 = .ok (.iconst 0, 1) := by decide +kernel
theorem dX9_begins_65 : decode cX9_begins 65 = .ok (.istore_n 2, 1) := by decide +kernel
theorem dX9_begins_66 : decode cX9_begins 66 = .ok (.iload_n 2, 1) := by decide +kernel
theorem dX9_begins_67 : decode cX9_begins 67 = .ok (.bipush 6, 2) := by decide +kernel
theorem dX9_begins_69 : decode cX9_begins 69 = .ok (.if_icmp .ge 18, 3) := by decide +kernel
theorem dX9_begins_72 : decode cX9_begins 72 = .ok (.aload_n 0, 1) := by decide +kernel
theorem dX9_begins_73 : decode cX9_begins 73 = .ok (.getfield 32, 3) := by decide +kernel
theorem dX9_begins_76 : decode cX9_begins 76 = .ok (.iconst 4, 1) := by decide +kernel
theorem dX9_begins_77 : decode cX9_begins 77 = .ok (.iload_n 2, 1) := by decide +kernel
theorem dX9_begins_78 : decode cX9_begins 78 = .ok (.iadd, 1) := by decide +kernel
theorem dX9_begins_79 : decode cX9_begins 79 = .ok (.iload_n 2, 1) := by decide +kernel
theorem dX9_begins_80 : decode cX9_begins 80 = .ok (.iastore, 1) := by decide +kernel
theorem dX9_begins_81 : decode cX9_begins 81 = .ok (.iinc 2 1, 3) := by decide +kernel
theorem dX9_begins_84 : decode cX9_begins 84 = .ok (.goto (-18), 3) := by decide +kernel
theorem dX9_begins_87 : decode cX9_begins 87 = .ok (.aload_n 0, 1) := by decide +kernel
theorem dX9_begins_88 : decode cX9_begins 88 = .ok (.iconst 0, 1) := by decide +kernel
theorem dX9_begins_89 : decode cX9_begins 89 = .ok (.putfield 183, 3) := by decide +kernel
theorem dX9_begins_92 : decode cX9_begins 92 = .ok (.return_, 1) := by decide +kernel
def fX9_begins_66  : Nat → PH → Nat → Int32 → Option (Unit × PH)
  | 0, _, _, _ => none
  | n + 1, g, v0, v2 =>
  if (6 : Int32) ≤ v2 then ((putV g v0 9 19 (.int (0 : Int32))).bind fun g2 =>
  (some ((), g2))) else
  ((getR g v0 9 16).bind fun p4 =>
  ((stI g p4 0 ((4 : Int32) + v2) v2).bind fun g6 =>
  (fX9_begins_66 n g6 v0 (v2 + (1 : Int32)))))
set_option maxHeartbeats 4000000 in
set_option maxRecDepth 100000 in
theorem bX9_begins_66 {K : HK} {E : HE} {r : Unit} {g' : PH}  (C : VC K E 3 cX9_begins RX9 none)  : ∀ (n : Nat) (g : PH) (v0 : Nat) (v2 : Int32), fX9_begins_66  n g v0 v2 = some (r, g') → V K E (hRm 0 0 0 0) 3 (hZ K E none g' 0 0) 0 0 (kS K) g 66 [(0, .ref v0), (2, .int v2)] [] := by
  intro n
  induction n with
  | zero =>
    intro g v0 v2 hf
    rw [fX9_begins_66] at hf
    cases hf
  | succ n ih =>
    intro g v0 v2 hf
    rw [fX9_begins_66] at hf
    refine V.iload_n (pc := 66) C dX9_begins_66 1 rfl ?_
    refine V.bipush (pc := 67) C dX9_begins_67 (v := (6 : Int32)) (by decide) ?_
    refine V.icmp_ge (pc := 69) (t := 87) C dX9_begins_69 (by decide) (fun c1 => ?_) (fun c1 => ?_)
    · replace hf := ite_t c1 hf
      refine V.aload_n (pc := 87) C dX9_begins_87 0 rfl ?_
      refine V.iconst (pc := 88) C dX9_begins_88 (v := (0 : Int32)) (by decide) ?_
      replace hf := ob_some hf
      obtain ⟨g2, h3, hf⟩ := hf
      refine V.putX (pc := 89) C kX9 (k := 19) (by decide) wd_1069 rfl rfl rfl h3 dX9_begins_89 ?_
      obtain ⟨f1, f2⟩ := fin2 hf
      clear hf
      subst f1
      subst f2
      exact V.vret (pc := 92) C rfl dX9_begins_92
    replace hf := ite_f c1 hf
    refine V.aload_n (pc := 72) C dX9_begins_72 0 rfl ?_
    replace hf := ob_some hf
    obtain ⟨p4, h5, hf⟩ := hf
    refine V.getR (pc := 73) C kX9 (k := 16) (by decide) wd_1066 h5 dX9_begins_73 ?_
    refine V.iconst (pc := 76) C dX9_begins_76 (v := (4 : Int32)) (by decide) ?_
    refine V.iload_n (pc := 77) C dX9_begins_77 1 rfl ?_
    refine V.iadd (pc := 78) C dX9_begins_78 ?_
    refine V.iload_n (pc := 79) C dX9_begins_79 1 rfl ?_
    replace hf := ob_some hf
    obtain ⟨g6, h7, hf⟩ := hf
    refine V.iast (pc := 80) C h7 dX9_begins_80 ?_
    refine V.iinc (pc := 81) (v := (v2 + (1 : Int32))) (L' := [(2, .int (v2 + (1 : Int32))), (0, .ref v0)]) C dX9_begins_81 1 rfl rfl (by decide) rfl ?_
    refine V.goto (pc := 84) (t := 66) C dX9_begins_84 (by decide) ?_
    refine V.sub (L' := [(0, .ref v0), (2, .int (v2 + (1 : Int32)))]) [1, 0] rfl ?_
    exact ih _ _ _ hf
def fX9_begins_7  : Nat → PH → Nat → Int32 → Option (Unit × PH)
  | 0, _, _, _ => none
  | n + 1, g, v0, v2 =>
  if (133 : Int32) ≤ v2 then ((getR g v0 9 16).bind fun p2 =>
  ((stI g p2 0 (1 : Int32) (-1 : Int32)).bind fun g4 =>
  ((getR g4 v0 9 16).bind fun p6 =>
  ((stI g4 p6 0 (2 : Int32) (-1 : Int32)).bind fun g8 =>
  ((getR g8 v0 9 16).bind fun p10 =>
  ((stI g8 p10 0 (3 : Int32) (-1 : Int32)).bind fun g12 =>
  ((getR g12 v0 9 16).bind fun p14 =>
  ((stI g12 p14 0 (10 : Int32) (-1 : Int32)).bind fun g16 =>
  ((getR g16 v0 9 16).bind fun p18 =>
  ((stI g16 p18 0 (12 : Int32) (-1 : Int32)).bind fun g20 =>
  (fX9_begins_66 FUEL g20 v0 (0 : Int32)))))))))))) else
  ((getR g v0 9 16).bind fun p22 =>
  ((stI g p22 0 v2 (0 : Int32)).bind fun g24 =>
  (fX9_begins_7 n g24 v0 (v2 + (1 : Int32)))))
set_option maxHeartbeats 4000000 in
set_option maxRecDepth 100000 in
theorem bX9_begins_7 {K : HK} {E : HE} {r : Unit} {g' : PH}  (C : VC K E 3 cX9_begins RX9 none)  : ∀ (n : Nat) (g : PH) (v0 : Nat) (v2 : Int32), fX9_begins_7  n g v0 v2 = some (r, g') → V K E (hRm 0 0 0 0) 3 (hZ K E none g' 0 0) 0 0 (kS K) g 7 [(0, .ref v0), (2, .int v2)] [] := by
  intro n
  induction n with
  | zero =>
    intro g v0 v2 hf
    rw [fX9_begins_7] at hf
    cases hf
  | succ n ih =>
    intro g v0 v2 hf
    rw [fX9_begins_7] at hf
    refine V.iload_n (pc := 7) C dX9_begins_7 1 rfl ?_
    refine V.sipush (pc := 8) C dX9_begins_8 (v := (133 : Int32)) (by decide) ?_
    refine V.icmp_ge (pc := 11) (t := 27) C dX9_begins_11 (by decide) (fun c1 => ?_) (fun c1 => ?_)
    · replace hf := ite_t c1 hf
      refine V.aload_n (pc := 27) C dX9_begins_27 0 rfl ?_
      replace hf := ob_some hf
      obtain ⟨p2, h3, hf⟩ := hf
      refine V.getR (pc := 28) C kX9 (k := 16) (by decide) wd_1066 h3 dX9_begins_28 ?_
      refine V.iconst (pc := 31) C dX9_begins_31 (v := (1 : Int32)) (by decide) ?_
      refine V.iconst (pc := 32) C dX9_begins_32 (v := (-1 : Int32)) (by decide) ?_
      replace hf := ob_some hf
      obtain ⟨g4, h5, hf⟩ := hf
      refine V.iast (pc := 33) C h5 dX9_begins_33 ?_
      refine V.aload_n (pc := 34) C dX9_begins_34 0 rfl ?_
      replace hf := ob_some hf
      obtain ⟨p6, h7, hf⟩ := hf
      refine V.getR (pc := 35) C kX9 (k := 16) (by decide) wd_1066 h7 dX9_begins_35 ?_
      refine V.iconst (pc := 38) C dX9_begins_38 (v := (2 : Int32)) (by decide) ?_
      refine V.iconst (pc := 39) C dX9_begins_39 (v := (-1 : Int32)) (by decide) ?_
      replace hf := ob_some hf
      obtain ⟨g8, h9, hf⟩ := hf
      refine V.iast (pc := 40) C h9 dX9_begins_40 ?_
      refine V.aload_n (pc := 41) C dX9_begins_41 0 rfl ?_
      replace hf := ob_some hf
      obtain ⟨p10, h11, hf⟩ := hf
      refine V.getR (pc := 42) C kX9 (k := 16) (by decide) wd_1066 h11 dX9_begins_42 ?_
      refine V.iconst (pc := 45) C dX9_begins_45 (v := (3 : Int32)) (by decide) ?_
      refine V.iconst (pc := 46) C dX9_begins_46 (v := (-1 : Int32)) (by decide) ?_
      replace hf := ob_some hf
      obtain ⟨g12, h13, hf⟩ := hf
      refine V.iast (pc := 47) C h13 dX9_begins_47 ?_
      refine V.aload_n (pc := 48) C dX9_begins_48 0 rfl ?_
      replace hf := ob_some hf
      obtain ⟨p14, h15, hf⟩ := hf
      refine V.getR (pc := 49) C kX9 (k := 16) (by decide) wd_1066 h15 dX9_begins_49 ?_
      refine V.bipush (pc := 52) C dX9_begins_52 (v := (10 : Int32)) (by decide) ?_
      refine V.iconst (pc := 54) C dX9_begins_54 (v := (-1 : Int32)) (by decide) ?_
      replace hf := ob_some hf
      obtain ⟨g16, h17, hf⟩ := hf
      refine V.iast (pc := 55) C h17 dX9_begins_55 ?_
      refine V.aload_n (pc := 56) C dX9_begins_56 0 rfl ?_
      replace hf := ob_some hf
      obtain ⟨p18, h19, hf⟩ := hf
      refine V.getR (pc := 57) C kX9 (k := 16) (by decide) wd_1066 h19 dX9_begins_57 ?_
      refine V.bipush (pc := 60) C dX9_begins_60 (v := (12 : Int32)) (by decide) ?_
      refine V.iconst (pc := 62) C dX9_begins_62 (v := (-1 : Int32)) (by decide) ?_
      replace hf := ob_some hf
      obtain ⟨g20, h21, hf⟩ := hf
      refine V.iast (pc := 63) C h21 dX9_begins_63 ?_
      refine V.iconst (pc := 64) C dX9_begins_64 (v := (0 : Int32)) (by decide) ?_
      refine V.istore_n (pc := 65) (L' := [(2, .int (0 : Int32)), (0, .ref v0)]) C dX9_begins_65 (by decide) rfl ?_
      refine V.sub (L' := [(0, .ref v0), (2, .int (0 : Int32))]) [1, 0] rfl ?_
      exact bX9_begins_66 C  _ _ _ _ hf
    replace hf := ite_f c1 hf
    refine V.aload_n (pc := 14) C dX9_begins_14 0 rfl ?_
    replace hf := ob_some hf
    obtain ⟨p22, h23, hf⟩ := hf
    refine V.getR (pc := 15) C kX9 (k := 16) (by decide) wd_1066 h23 dX9_begins_15 ?_
    refine V.iload_n (pc := 18) C dX9_begins_18 1 rfl ?_
    refine V.iconst (pc := 19) C dX9_begins_19 (v := (0 : Int32)) (by decide) ?_
    replace hf := ob_some hf
    obtain ⟨g24, h25, hf⟩ := hf
    refine V.iast (pc := 20) C h25 dX9_begins_20 ?_
    refine V.iinc (pc := 21) (v := (v2 + (1 : Int32))) (L' := [(2, .int (v2 + (1 : Int32))), (0, .ref v0)]) C dX9_begins_21 1 rfl rfl (by decide) rfl ?_
    refine V.goto (pc := 24) (t := 7) C dX9_begins_24 (by decide) ?_
    refine V.sub (L' := [(0, .ref v0), (2, .int (v2 + (1 : Int32)))]) [1, 0] rfl ?_
    exact ih _ _ _ hf
def fX9_begins (g : PH) (a0 : Nat) (a1 : Int32) : Option (Unit × PH) :=
  okb (isO g a0 9) ((putV g a0 9 15 (.int a1)).bind fun g1 =>
  (fX9_begins_7 FUEL g1 a0 (0 : Int32)))
theorem oX9_begins {g : PH} {a0 : Nat} {a1 : Int32} {q : (Unit × PH)} (h : fX9_begins g a0 a1 = some q) : isO g a0 9 = true := by unfold fX9_begins at h; exact (okb_some h).1
theorem hyX9_begins : hMet yX9_begins RX9 cX9_begins 3 none 1 := ⟨wd_1049, wd_1048, ws_49, wd_7, rfl, by decide +kernel, by decide +kernel, by decide +kernel⟩
set_option maxHeartbeats 4000000 in
set_option maxRecDepth 100000 in
theorem mX9_begins (l : Launch) (E : HE) (sz : Nat) {g g' : PH} {a0 : Nat} {a1 : Int32} {r : Unit} (hf : fX9_begins g a0 a1 = some (r, g')) : hM l E yX9_begins cX9_begins 3 none 0 0 0 0 sz g [.ref a0, .int a1] none g' := by
  refine hM.of (by decide) (Nat.le_of_ble_eq_true rfl) (fun K hl C hin hsz => ?_)
  subst hl
  subst hsz
  have C : VC K E 3 cX9_begins RX9 none := C
  unfold fX9_begins at hf
  replace hf := okb_some hf
  obtain ⟨ho, hf⟩ := hf
  refine V.start (L' := [(0, .ref a0), (1, .int a1)]) rfl ?_
  refine V.aload_n (pc := 0) C dX9_begins_0 0 rfl ?_
  refine V.iload_n (pc := 1) C dX9_begins_1 1 rfl ?_
  replace hf := ob_some hf
  obtain ⟨g1, h2, hf⟩ := hf
  refine V.putX (pc := 2) C kX9 (k := 15) (by decide) wd_1065 rfl rfl rfl h2 dX9_begins_2 ?_
  refine V.iconst (pc := 5) C dX9_begins_5 (v := (0 : Int32)) (by decide) ?_
  refine V.istore_n (pc := 6) (L' := [(2, .int (0 : Int32)), (0, .ref a0), (1, .int a1)]) C dX9_begins_6 (by decide) rfl ?_
  refine V.sub (L' := [(0, .ref a0), (2, .int (0 : Int32))]) [1, 0] rfl ?_
  exact bX9_begins_7 C  _ _ _ _ hf
theorem dX9_init_0 : decode cX9_init 0 = .ok (.aload_n 0, 1) := by decide +kernel
theorem dX9_init_1 : decode cX9_init 1 = .ok (.invokespecial 1, 3) := by decide +kernel
theorem dX9_init_4 : decode cX9_init 4 = .ok (.aload_n 0, 1) := by decide +kernel
theorem dX9_init_5 : decode cX9_init 5 = .ok (.sipush 200, 3) := by decide +kernel
theorem dX9_init_8 : decode cX9_init 8 = .ok (.newarray .byte, 2) := by decide +kernel
theorem dX9_init_10 : decode cX9_init 10 = .ok (.putfield 7, 3) := by decide +kernel
theorem dX9_init_13 : decode cX9_init 13 = .ok (.aload_n 0, 1) := by decide +kernel
theorem dX9_init_14 : decode cX9_init 14 = .ok (.sipush 180, 3) := by decide +kernel
theorem dX9_init_17 : decode cX9_init 17 = .ok (.newarray .int, 2) := by decide +kernel
theorem dX9_init_19 : decode cX9_init 19 = .ok (.putfield 13, 3) := by decide +kernel
theorem dX9_init_22 : decode cX9_init 22 = .ok (.aload_n 0, 1) := by decide +kernel
theorem dX9_init_23 : decode cX9_init 23 = .ok (.bipush 9, 2) := by decide +kernel
theorem dX9_init_25 : decode cX9_init 25 = .ok (.newarray .int, 2) := by decide +kernel
theorem dX9_init_27 : decode cX9_init 27 = .ok (.putfield 17, 3) := by decide +kernel
theorem dX9_init_30 : decode cX9_init 30 = .ok (.aload_n 0, 1) := by decide +kernel
theorem dX9_init_31 : decode cX9_init 31 = .ok (.sipush 448, 3) := by decide +kernel
theorem dX9_init_34 : decode cX9_init 34 = .ok (.newarray .int, 2) := by decide +kernel
theorem dX9_init_36 : decode cX9_init 36 = .ok (.putfield 20, 3) := by decide +kernel
theorem dX9_init_39 : decode cX9_init 39 = .ok (.aload_n 0, 1) := by decide +kernel
theorem dX9_init_40 : decode cX9_init 40 = .ok (.bipush 7, 2) := by decide +kernel
theorem dX9_init_42 : decode cX9_init 42 = .ok (.newarray .int, 2) := by decide +kernel
theorem dX9_init_44 : decode cX9_init 44 = .ok (.putfield 23, 3) := by decide +kernel
theorem dX9_init_47 : decode cX9_init 47 = .ok (.aload_n 0, 1) := by decide +kernel
theorem dX9_init_48 : decode cX9_init 48 = .ok (.bipush 7, 2) := by decide +kernel
theorem dX9_init_50 : decode cX9_init 50 = .ok (.newarray .int, 2) := by decide +kernel
theorem dX9_init_52 : decode cX9_init 52 = .ok (.putfield 26, 3) := by decide +kernel
theorem dX9_init_55 : decode cX9_init 55 = .ok (.aload_n 0, 1) := by decide +kernel
theorem dX9_init_56 : decode cX9_init 56 = .ok (.bipush 15, 2) := by decide +kernel
theorem dX9_init_58 : decode cX9_init 58 = .ok (.newarray .byte, 2) := by decide +kernel
theorem dX9_init_60 : decode cX9_init 60 = .ok (.dup, 1) := by decide +kernel
theorem dX9_init_61 : decode cX9_init 61 = .ok (.iconst 0, 1) := by decide +kernel
theorem dX9_init_62 : decode cX9_init 62 = .ok (.bipush 117, 2) := by decide +kernel
theorem dX9_init_64 : decode cX9_init 64 = .ok (.bastore, 1) := by decide +kernel
theorem dX9_init_65 : decode cX9_init 65 = .ok (.dup, 1) := by decide +kernel
theorem dX9_init_66 : decode cX9_init 66 = .ok (.iconst 1, 1) := by decide +kernel
theorem dX9_init_67 : decode cX9_init 67 = .ok (.bipush 112, 2) := by decide +kernel
theorem dX9_init_69 : decode cX9_init 69 = .ok (.bastore, 1) := by decide +kernel
theorem dX9_init_70 : decode cX9_init 70 = .ok (.dup, 1) := by decide +kernel
theorem dX9_init_71 : decode cX9_init 71 = .ok (.iconst 2, 1) := by decide +kernel
theorem dX9_init_72 : decode cX9_init 72 = .ok (.iconst 0, 1) := by decide +kernel
theorem dX9_init_73 : decode cX9_init 73 = .ok (.bastore, 1) := by decide +kernel
theorem dX9_init_74 : decode cX9_init 74 = .ok (.dup, 1) := by decide +kernel
theorem dX9_init_75 : decode cX9_init 75 = .ok (.iconst 3, 1) := by decide +kernel
theorem dX9_init_76 : decode cX9_init 76 = .ok (.iconst 0, 1) := by decide +kernel
theorem dX9_init_77 : decode cX9_init 77 = .ok (.bastore, 1) := by decide +kernel
theorem dX9_init_78 : decode cX9_init 78 = .ok (.dup, 1) := by decide +kernel
theorem dX9_init_79 : decode cX9_init 79 = .ok (.iconst 4, 1) := by decide +kernel
theorem dX9_init_80 : decode cX9_init 80 = .ok (.iconst 0, 1) := by decide +kernel
theorem dX9_init_81 : decode cX9_init 81 = .ok (.bastore, 1) := by decide +kernel
theorem dX9_init_82 : decode cX9_init 82 = .ok (.dup, 1) := by decide +kernel
theorem dX9_init_83 : decode cX9_init 83 = .ok (.iconst 5, 1) := by decide +kernel
theorem dX9_init_84 : decode cX9_init 84 = .ok (.bipush 100, 2) := by decide +kernel
theorem dX9_init_86 : decode cX9_init 86 = .ok (.bastore, 1) := by decide +kernel
theorem dX9_init_87 : decode cX9_init 87 = .ok (.dup, 1) := by decide +kernel
theorem dX9_init_88 : decode cX9_init 88 = .ok (.bipush 6, 2) := by decide +kernel
theorem dX9_init_90 : decode cX9_init 90 = .ok (.bipush 111, 2) := by decide +kernel
theorem dX9_init_92 : decode cX9_init 92 = .ok (.bastore, 1) := by decide +kernel
theorem dX9_init_93 : decode cX9_init 93 = .ok (.dup, 1) := by decide +kernel
theorem dX9_init_94 : decode cX9_init 94 = .ok (.bipush 7, 2) := by decide +kernel
theorem dX9_init_96 : decode cX9_init 96 = .ok (.bipush 119, 2) := by decide +kernel
theorem dX9_init_98 : decode cX9_init 98 = .ok (.bastore, 1) := by decide +kernel
theorem dX9_init_99 : decode cX9_init 99 = .ok (.dup, 1) := by decide +kernel
theorem dX9_init_100 : decode cX9_init 100 = .ok (.bipush 8, 2) := by decide +kernel
theorem dX9_init_102 : decode cX9_init 102 = .ok (.bipush 110, 2) := by decide +kernel
theorem dX9_init_104 : decode cX9_init 104 = .ok (.bastore, 1) := by decide +kernel
theorem dX9_init_105 : decode cX9_init 105 = .ok (.dup, 1) := by decide +kernel
theorem dX9_init_106 : decode cX9_init 106 = .ok (.bipush 9, 2) := by decide +kernel
theorem dX9_init_108 : decode cX9_init 108 = .ok (.iconst 0, 1) := by decide +kernel
theorem dX9_init_109 : decode cX9_init 109 = .ok (.bastore, 1) := by decide +kernel
theorem dX9_init_110 : decode cX9_init 110 = .ok (.dup, 1) := by decide +kernel
theorem dX9_init_111 : decode cX9_init 111 = .ok (.bipush 10, 2) := by decide +kernel
theorem dX9_init_113 : decode cX9_init 113 = .ok (.bipush 97, 2) := by decide +kernel
theorem dX9_init_115 : decode cX9_init 115 = .ok (.bastore, 1) := by decide +kernel
theorem dX9_init_116 : decode cX9_init 116 = .ok (.dup, 1) := by decide +kernel
theorem dX9_init_117 : decode cX9_init 117 = .ok (.bipush 11, 2) := by decide +kernel
theorem dX9_init_119 : decode cX9_init 119 = .ok (.bipush 110, 2) := by decide +kernel
theorem dX9_init_121 : decode cX9_init 121 = .ok (.bastore, 1) := by decide +kernel
theorem dX9_init_122 : decode cX9_init 122 = .ok (.dup, 1) := by decide +kernel
theorem dX9_init_123 : decode cX9_init 123 = .ok (.bipush 12, 2) := by decide +kernel
theorem dX9_init_125 : decode cX9_init 125 = .ok (.bipush 121, 2) := by decide +kernel
theorem dX9_init_127 : decode cX9_init 127 = .ok (.bastore, 1) := by decide +kernel
theorem dX9_init_128 : decode cX9_init 128 = .ok (.dup, 1) := by decide +kernel
theorem dX9_init_129 : decode cX9_init 129 = .ok (.bipush 13, 2) := by decide +kernel
theorem dX9_init_131 : decode cX9_init 131 = .ok (.iconst 0, 1) := by decide +kernel
theorem dX9_init_132 : decode cX9_init 132 = .ok (.bastore, 1) := by decide +kernel
theorem dX9_init_133 : decode cX9_init 133 = .ok (.dup, 1) := by decide +kernel
theorem dX9_init_134 : decode cX9_init 134 = .ok (.bipush 14, 2) := by decide +kernel
theorem dX9_init_136 : decode cX9_init 136 = .ok (.iconst 0, 1) := by decide +kernel
theorem dX9_init_137 : decode cX9_init 137 = .ok (.bastore, 1) := by decide +kernel
theorem dX9_init_138 : decode cX9_init 138 = .ok (.putfield 29, 3) := by decide +kernel
theorem dX9_init_141 : decode cX9_init 141 = .ok (.aload_n 0, 1) := by decide +kernel
theorem dX9_init_142 : decode cX9_init 142 = .ok (.sipush 133, 3) := by decide +kernel
theorem dX9_init_145 : decode cX9_init 145 = .ok (.newarray .int, 2) := by decide +kernel
theorem dX9_init_147 : decode cX9_init 147 = .ok (.putfield 32, 3) := by decide +kernel
theorem dX9_init_150 : decode cX9_init 150 = .ok (.aload_n 0, 1) := by decide +kernel
theorem dX9_init_151 : decode cX9_init 151 = .ok (.sipush 133, 3) := by decide +kernel
theorem dX9_init_154 : decode cX9_init 154 = .ok (.newarray .int, 2) := by decide +kernel
theorem dX9_init_156 : decode cX9_init 156 = .ok (.putfield 35, 3) := by decide +kernel
theorem dX9_init_159 : decode cX9_init 159 = .ok (.aload_n 0, 1) := by decide +kernel
theorem dX9_init_160 : decode cX9_init 160 = .ok (.sipush 2660, 3) := by decide +kernel
theorem dX9_init_163 : decode cX9_init 163 = .ok (.newarray .int, 2) := by decide +kernel
theorem dX9_init_165 : decode cX9_init 165 = .ok (.putfield 38, 3) := by decide +kernel
theorem dX9_init_168 : decode cX9_init 168 = .ok (.aload_n 0, 1) := by decide +kernel
theorem dX9_init_169 : decode cX9_init 169 = .ok (.bipush 120, 2) := by decide +kernel
theorem dX9_init_171 : decode cX9_init 171 = .ok (.newarray .int, 2) := by decide +kernel
theorem dX9_init_173 : decode cX9_init 173 = .ok (.putfield 41, 3) := by decide +kernel
theorem dX9_init_176 : decode cX9_init 176 = .ok (.aload_n 0, 1) := by decide +kernel
theorem dX9_init_177 : decode cX9_init 177 = .ok (.sipush 4804, 3) := by decide +kernel
theorem dX9_init_180 : decode cX9_init 180 = .ok (.newarray .long, 2) := by decide +kernel
theorem dX9_init_182 : decode cX9_init 182 = .ok (.putfield 44, 3) := by decide +kernel
theorem dX9_init_185 : decode cX9_init 185 = .ok (.aload_n 0, 1) := by decide +kernel
theorem dX9_init_186 : decode cX9_init 186 = .ok (.sipush 1201, 3) := by decide +kernel
theorem dX9_init_189 : decode cX9_init 189 = .ok (.newarray .int, 2) := by decide +kernel
theorem dX9_init_191 : decode cX9_init 191 = .ok (.putfield 48, 3) := by decide +kernel
theorem dX9_init_194 : decode cX9_init 194 = .ok (.aload_n 0, 1) := by decide +kernel
theorem dX9_init_195 : decode cX9_init 195 = .ok (.sipush 1201, 3) := by decide +kernel
theorem dX9_init_198 : decode cX9_init 198 = .ok (.newarray .int, 2) := by decide +kernel
theorem dX9_init_200 : decode cX9_init 200 = .ok (.putfield 51, 3) := by decide +kernel
theorem dX9_init_203 : decode cX9_init 203 = .ok (.aload_n 0, 1) := by decide +kernel
theorem dX9_init_204 : decode cX9_init 204 = .ok (.sipush 1201, 3) := by decide +kernel
theorem dX9_init_207 : decode cX9_init 207 = .ok (.newarray .int, 2) := by decide +kernel
theorem dX9_init_209 : decode cX9_init 209 = .ok (.putfield 54, 3) := by decide +kernel
theorem dX9_init_212 : decode cX9_init 212 = .ok (.aload_n 0, 1) := by decide +kernel
theorem dX9_init_213 : decode cX9_init 213 = .ok (.bipush 64, 2) := by decide +kernel
theorem dX9_init_215 : decode cX9_init 215 = .ok (.newarray .int, 2) := by decide +kernel
theorem dX9_init_217 : decode cX9_init 217 = .ok (.putfield 57, 3) := by decide +kernel
theorem dX9_init_220 : decode cX9_init 220 = .ok (.aload_n 0, 1) := by decide +kernel
theorem dX9_init_221 : decode cX9_init 221 = .ok (.bipush 64, 2) := by decide +kernel
theorem dX9_init_223 : decode cX9_init 223 = .ok (.newarray .int, 2) := by decide +kernel
theorem dX9_init_225 : decode cX9_init 225 = .ok (.putfield 60, 3) := by decide +kernel
theorem dX9_init_228 : decode cX9_init 228 = .ok (.aload_n 0, 1) := by decide +kernel
theorem dX9_init_229 : decode cX9_init 229 = .ok (.iconst 4, 1) := by decide +kernel
theorem dX9_init_230 : decode cX9_init 230 = .ok (.newarray .long, 2) := by decide +kernel
theorem dX9_init_232 : decode cX9_init 232 = .ok (.putfield 63, 3) := by decide +kernel
theorem dX9_init_235 : decode cX9_init 235 = .ok (.aload_n 0, 1) := by decide +kernel
theorem dX9_init_236 : decode cX9_init 236 = .ok (.bipush 10, 2) := by decide +kernel
theorem dX9_init_238 : decode cX9_init 238 = .ok (.newarray .int, 2) := by decide +kernel
theorem dX9_init_240 : decode cX9_init 240 = .ok (.putfield 66, 3) := by decide +kernel
theorem dX9_init_243 : decode cX9_init 243 = .ok (.aload_n 0, 1) := by decide +kernel
theorem dX9_init_244 : decode cX9_init 244 = .ok (.sipush 720, 3) := by decide +kernel
theorem dX9_init_247 : decode cX9_init 247 = .ok (.newarray .int, 2) := by decide +kernel
theorem dX9_init_249 : decode cX9_init 249 = .ok (.putfield 69, 3) := by decide +kernel
theorem dX9_init_252 : decode cX9_init 252 = .ok (.aload_n 0, 1) := by decide +kernel
theorem dX9_init_253 : decode cX9_init 253 = .ok (.sipush 240, 3) := by decide +kernel
theorem dX9_init_256 : decode cX9_init 256 = .ok (.newarray .int, 2) := by decide +kernel
theorem dX9_init_258 : decode cX9_init 258 = .ok (.putfield 72, 3) := by decide +kernel
theorem dX9_init_261 : decode cX9_init 261 = .ok (.aload_n 0, 1) := by decide +kernel
theorem dX9_init_262 : decode cX9_init 262 = .ok (.sipush 28800, 3) := by decide +kernel
theorem dX9_init_265 : decode cX9_init 265 = .ok (.newarray .int, 2) := by decide +kernel
theorem dX9_init_267 : decode cX9_init 267 = .ok (.putfield 75, 3) := by decide +kernel
theorem dX9_init_270 : decode cX9_init 270 = .ok (.aload_n 0, 1) := by decide +kernel
theorem dX9_init_271 : decode cX9_init 271 = .ok (.iconst 4, 1) := by decide +kernel
theorem dX9_init_272 : decode cX9_init 272 = .ok (.invokevirtual 78, 3) := by decide +kernel
theorem dX9_init_275 : decode cX9_init 275 = .ok (.return_, 1) := by decide +kernel
def fX9_init (sz : Nat) (g : PH) (a0 : Nat) : Option (Unit × PH × Nat × Nat) :=
  bmp 1 200 ((putV (hup g sz (.inl (1, 200, .inl (fun _ => 0)))) a0 9 0 (.ref sz)).bind fun g6 =>
  (bmp 1 180 ((putV (hup g6 (sz + 1) (.inl (0, 180, .inl (fun _ => 0)))) a0 9 5 (.ref (sz + 1))).bind fun g13 =>
  (bmp 1 9 ((putV (hup g13 ((sz + 1) + 1) (.inl (0, 9, .inl (fun _ => 0)))) a0 9 6 (.ref ((sz + 1) + 1))).bind fun g20 =>
  (bmp 1 448 ((putV (hup g20 (((sz + 1) + 1) + 1) (.inl (0, 448, .inl (fun _ => 0)))) a0 9 8 (.ref (((sz + 1) + 1) + 1))).bind fun g27 =>
  (bmp 1 7 ((putV (hup g27 ((((sz + 1) + 1) + 1) + 1) (.inl (0, 7, .inl (fun _ => 0)))) a0 9 9 (.ref ((((sz + 1) + 1) + 1) + 1))).bind fun g34 =>
  (bmp 1 7 ((putV (hup g34 (((((sz + 1) + 1) + 1) + 1) + 1) (.inl (0, 7, .inl (fun _ => 0)))) a0 9 10 (.ref (((((sz + 1) + 1) + 1) + 1) + 1))).bind fun g41 =>
  (bmp 1 15 ((stI (hup g41 ((((((sz + 1) + 1) + 1) + 1) + 1) + 1) (.inl (1, 15, .inl (fun _ => 0)))) ((((((sz + 1) + 1) + 1) + 1) + 1) + 1) 1 (0 : Int32) (vp_nar .byte (117 : Int32))).bind fun g48 =>
  ((stI g48 ((((((sz + 1) + 1) + 1) + 1) + 1) + 1) 1 (1 : Int32) (vp_nar .byte (112 : Int32))).bind fun g50 =>
  ((stI g50 ((((((sz + 1) + 1) + 1) + 1) + 1) + 1) 1 (2 : Int32) (vp_nar .byte (0 : Int32))).bind fun g52 =>
  ((stI g52 ((((((sz + 1) + 1) + 1) + 1) + 1) + 1) 1 (3 : Int32) (vp_nar .byte (0 : Int32))).bind fun g54 =>
  ((stI g54 ((((((sz + 1) + 1) + 1) + 1) + 1) + 1) 1 (4 : Int32) (vp_nar .byte (0 : Int32))).bind fun g56 =>
  ((stI g56 ((((((sz + 1) + 1) + 1) + 1) + 1) + 1) 1 (5 : Int32) (vp_nar .byte (100 : Int32))).bind fun g58 =>
  ((stI g58 ((((((sz + 1) + 1) + 1) + 1) + 1) + 1) 1 (6 : Int32) (vp_nar .byte (111 : Int32))).bind fun g60 =>
  ((stI g60 ((((((sz + 1) + 1) + 1) + 1) + 1) + 1) 1 (7 : Int32) (vp_nar .byte (119 : Int32))).bind fun g62 =>
  ((stI g62 ((((((sz + 1) + 1) + 1) + 1) + 1) + 1) 1 (8 : Int32) (vp_nar .byte (110 : Int32))).bind fun g64 =>
  ((stI g64 ((((((sz + 1) + 1) + 1) + 1) + 1) + 1) 1 (9 : Int32) (vp_nar .byte (0 : Int32))).bind fun g66 =>
  ((stI g66 ((((((sz + 1) + 1) + 1) + 1) + 1) + 1) 1 (10 : Int32) (vp_nar .byte (97 : Int32))).bind fun g68 =>
  ((stI g68 ((((((sz + 1) + 1) + 1) + 1) + 1) + 1) 1 (11 : Int32) (vp_nar .byte (110 : Int32))).bind fun g70 =>
  ((stI g70 ((((((sz + 1) + 1) + 1) + 1) + 1) + 1) 1 (12 : Int32) (vp_nar .byte (121 : Int32))).bind fun g72 =>
  ((stI g72 ((((((sz + 1) + 1) + 1) + 1) + 1) + 1) 1 (13 : Int32) (vp_nar .byte (0 : Int32))).bind fun g74 =>
  ((stI g74 ((((((sz + 1) + 1) + 1) + 1) + 1) + 1) 1 (14 : Int32) (vp_nar .byte (0 : Int32))).bind fun g76 =>
  ((putV g76 a0 9 12 (.ref ((((((sz + 1) + 1) + 1) + 1) + 1) + 1))).bind fun g78 =>
  (bmp 1 133 ((putV (hup g78 (((((((sz + 1) + 1) + 1) + 1) + 1) + 1) + 1) (.inl (0, 133, .inl (fun _ => 0)))) a0 9 16 (.ref (((((((sz + 1) + 1) + 1) + 1) + 1) + 1) + 1))).bind fun g85 =>
  (bmp 1 133 ((putV (hup g85 ((((((((sz + 1) + 1) + 1) + 1) + 1) + 1) + 1) + 1) (.inl (0, 133, .inl (fun _ => 0)))) a0 9 17 (.ref ((((((((sz + 1) + 1) + 1) + 1) + 1) + 1) + 1) + 1))).bind fun g92 =>
  (bmp 1 2660 ((putV (hup g92 (((((((((sz + 1) + 1) + 1) + 1) + 1) + 1) + 1) + 1) + 1) (.inl (0, 2660, .inl (fun _ => 0)))) a0 9 18 (.ref (((((((((sz + 1) + 1) + 1) + 1) + 1) + 1) + 1) + 1) + 1))).bind fun g99 =>
  (bmp 1 120 ((putV (hup g99 ((((((((((sz + 1) + 1) + 1) + 1) + 1) + 1) + 1) + 1) + 1) + 1) (.inl (0, 120, .inl (fun _ => 0)))) a0 9 21 (.ref ((((((((((sz + 1) + 1) + 1) + 1) + 1) + 1) + 1) + 1) + 1) + 1))).bind fun g106 =>
  (bmp 1 4804 ((putV (hup g106 (((((((((((sz + 1) + 1) + 1) + 1) + 1) + 1) + 1) + 1) + 1) + 1) + 1) (.inl (2, 4804, .inr (.inl (fun _ => 0))))) a0 9 25 (.ref (((((((((((sz + 1) + 1) + 1) + 1) + 1) + 1) + 1) + 1) + 1) + 1) + 1))).bind fun g113 =>
  (bmp 1 1201 ((putV (hup g113 ((((((((((((sz + 1) + 1) + 1) + 1) + 1) + 1) + 1) + 1) + 1) + 1) + 1) + 1) (.inl (0, 1201, .inl (fun _ => 0)))) a0 9 26 (.ref ((((((((((((sz + 1) + 1) + 1) + 1) + 1) + 1) + 1) + 1) + 1) + 1) + 1) + 1))).bind fun g120 =>
  (bmp 1 1201 ((putV (hup g120 (((((((((((((sz + 1) + 1) + 1) + 1) + 1) + 1) + 1) + 1) + 1) + 1) + 1) + 1) + 1) (.inl (0, 1201, .inl (fun _ => 0)))) a0 9 27 (.ref (((((((((((((sz + 1) + 1) + 1) + 1) + 1) + 1) + 1) + 1) + 1) + 1) + 1) + 1) + 1))).bind fun g127 =>
  (bmp 1 1201 ((putV (hup g127 ((((((((((((((sz + 1) + 1) + 1) + 1) + 1) + 1) + 1) + 1) + 1) + 1) + 1) + 1) + 1) + 1) (.inl (0, 1201, .inl (fun _ => 0)))) a0 9 28 (.ref ((((((((((((((sz + 1) + 1) + 1) + 1) + 1) + 1) + 1) + 1) + 1) + 1) + 1) + 1) + 1) + 1))).bind fun g134 =>
  (bmp 1 64 ((putV (hup g134 (((((((((((((((sz + 1) + 1) + 1) + 1) + 1) + 1) + 1) + 1) + 1) + 1) + 1) + 1) + 1) + 1) + 1) (.inl (0, 64, .inl (fun _ => 0)))) a0 9 31 (.ref (((((((((((((((sz + 1) + 1) + 1) + 1) + 1) + 1) + 1) + 1) + 1) + 1) + 1) + 1) + 1) + 1) + 1))).bind fun g141 =>
  (bmp 1 64 ((putV (hup g141 ((((((((((((((((sz + 1) + 1) + 1) + 1) + 1) + 1) + 1) + 1) + 1) + 1) + 1) + 1) + 1) + 1) + 1) + 1) (.inl (0, 64, .inl (fun _ => 0)))) a0 9 32 (.ref ((((((((((((((((sz + 1) + 1) + 1) + 1) + 1) + 1) + 1) + 1) + 1) + 1) + 1) + 1) + 1) + 1) + 1) + 1))).bind fun g148 =>
  (bmp 1 4 ((putV (hup g148 (((((((((((((((((sz + 1) + 1) + 1) + 1) + 1) + 1) + 1) + 1) + 1) + 1) + 1) + 1) + 1) + 1) + 1) + 1) + 1) (.inl (2, 4, .inr (.inl (fun _ => 0))))) a0 9 33 (.ref (((((((((((((((((sz + 1) + 1) + 1) + 1) + 1) + 1) + 1) + 1) + 1) + 1) + 1) + 1) + 1) + 1) + 1) + 1) + 1))).bind fun g155 =>
  (bmp 1 10 ((putV (hup g155 ((((((((((((((((((sz + 1) + 1) + 1) + 1) + 1) + 1) + 1) + 1) + 1) + 1) + 1) + 1) + 1) + 1) + 1) + 1) + 1) + 1) (.inl (0, 10, .inl (fun _ => 0)))) a0 9 34 (.ref ((((((((((((((((((sz + 1) + 1) + 1) + 1) + 1) + 1) + 1) + 1) + 1) + 1) + 1) + 1) + 1) + 1) + 1) + 1) + 1) + 1))).bind fun g162 =>
  (bmp 1 720 ((putV (hup g162 (((((((((((((((((((sz + 1) + 1) + 1) + 1) + 1) + 1) + 1) + 1) + 1) + 1) + 1) + 1) + 1) + 1) + 1) + 1) + 1) + 1) + 1) (.inl (0, 720, .inl (fun _ => 0)))) a0 9 35 (.ref (((((((((((((((((((sz + 1) + 1) + 1) + 1) + 1) + 1) + 1) + 1) + 1) + 1) + 1) + 1) + 1) + 1) + 1) + 1) + 1) + 1) + 1))).bind fun g169 =>
  (bmp 1 240 ((putV (hup g169 ((((((((((((((((((((sz + 1) + 1) + 1) + 1) + 1) + 1) + 1) + 1) + 1) + 1) + 1) + 1) + 1) + 1) + 1) + 1) + 1) + 1) + 1) + 1) (.inl (0, 240, .inl (fun _ => 0)))) a0 9 37 (.ref ((((((((((((((((((((sz + 1) + 1) + 1) + 1) + 1) + 1) + 1) + 1) + 1) + 1) + 1) + 1) + 1) + 1) + 1) + 1) + 1) + 1) + 1) + 1))).bind fun g176 =>
  (bmp 1 28800 ((putV (hup g176 (((((((((((((((((((((sz + 1) + 1) + 1) + 1) + 1) + 1) + 1) + 1) + 1) + 1) + 1) + 1) + 1) + 1) + 1) + 1) + 1) + 1) + 1) + 1) + 1) (.inl (0, 28800, .inl (fun _ => 0)))) a0 9 38 (.ref (((((((((((((((((((((sz + 1) + 1) + 1) + 1) + 1) + 1) + 1) + 1) + 1) + 1) + 1) + 1) + 1) + 1) + 1) + 1) + 1) + 1) + 1) + 1) + 1))).bind fun g183 =>
  ((fX9_begins g183 a0 (4 : Int32)).bind fun q185 =>
  (some ((), q185.2, 0, 0)))))))))))))))))))))))))))))))))))))))))))))))))))))))))))))
theorem hyX9_init : hMetI yX9_init cX9_init 1 0 := ⟨wd_1044, wd_1043, wd_7, rfl, by decide +kernel, by decide +kernel, by decide +kernel⟩
set_option maxHeartbeats 4000000 in
set_option maxRecDepth 100000 in
theorem mX9_init (l : Launch) (E : HE) (sz : Nat) {g g' : PH} {a0 : Nat} {r : Unit} {mc ms : Nat} (hf : fX9_init sz g a0 = some (r, g', mc, ms)) : hM l E yX9_init cX9_init 1 none 1 22 mc ms sz g [.ref a0] none g' := by
  refine hM.of (by decide) (Nat.le_of_ble_eq_true rfl) (fun K hl C hin hsz => ?_)
  subst hl
  subst hsz
  have C : VC K E 1 cX9_init RX9 none := C
  have hin := hin rfl
  unfold fX9_init at hf
  have hkS : K.2.2.2.1.heap.size = kS K := rfl
  have e1 : 0 + mc = mc := Nat.zero_add _
  have e2 : 0 + ms = ms := Nat.zero_add _
  have e3 : kS K = kS K + 0 := rfl
  refine V.start (L' := [(0, .ref a0)]) rfl ?_
  refine V.aload_n (pc := 0) C dX9_init_0 0 rfl ?_
  refine V.objInit (pc := 1) C wd_1045 wd_25 wd_26 (Nat.le_of_ble_eq_true rfl) ⟨Nat.le_of_ble_eq_true rfl, Nat.le_of_ble_eq_true rfl⟩ dX9_init_1 ?_
  refine V.aload_n (pc := 4) C dX9_init_4 0 rfl ?_
  refine V.sipush (pc := 5) C dX9_init_5 (v := (200 : Int32)) (by decide) ?_
  replace hf := bmp_some hf
  obtain ⟨b1, b2, hf, h3, h4⟩ := hf
  refine V.newB (pc := 8) (M := 200) C wd_48 (by decide) (by decide) (by decide) (by show _ ≤ mc; omega) (by show _ ≤ ms; omega) dX9_init_8 ?_
  replace hf := ob_some hf
  obtain ⟨g6, h7, hf⟩ := hf
  refine V.putF (pc := 10) C kX9 (k := 0) (by decide) wd_1050 rfl hin rfl rfl rfl h7 dX9_init_10 ?_
  refine V.aload_n (pc := 13) C dX9_init_13 0 rfl ?_
  refine V.sipush (pc := 14) C dX9_init_14 (v := (180 : Int32)) (by decide) ?_
  replace hf := bmp_some hf
  obtain ⟨b8, b9, hf, h10, h11⟩ := hf
  refine V.newI (pc := 17) (M := 180) C wd_106 (by decide) (by decide) (by decide) (by show _ ≤ mc; omega) (by show _ ≤ ms; omega) dX9_init_17 ?_
  replace hf := ob_some hf
  obtain ⟨g13, h14, hf⟩ := hf
  refine V.putF (pc := 19) C kX9 (k := 5) (by decide) wd_1055 rfl hin rfl rfl rfl h14 dX9_init_19 ?_
  refine V.aload_n (pc := 22) C dX9_init_22 0 rfl ?_
  refine V.bipush (pc := 23) C dX9_init_23 (v := (9 : Int32)) (by decide) ?_
  replace hf := bmp_some hf
  obtain ⟨b15, b16, hf, h17, h18⟩ := hf
  refine V.newI (pc := 25) (M := 9) C wd_106 (by decide) (by decide) (by decide) (by show _ ≤ mc; omega) (by show _ ≤ ms; omega) dX9_init_25 ?_
  replace hf := ob_some hf
  obtain ⟨g20, h21, hf⟩ := hf
  refine V.putF (pc := 27) C kX9 (k := 6) (by decide) wd_1056 rfl hin rfl rfl rfl h21 dX9_init_27 ?_
  refine V.aload_n (pc := 30) C dX9_init_30 0 rfl ?_
  refine V.sipush (pc := 31) C dX9_init_31 (v := (448 : Int32)) (by decide) ?_
  replace hf := bmp_some hf
  obtain ⟨b22, b23, hf, h24, h25⟩ := hf
  refine V.newI (pc := 34) (M := 448) C wd_106 (by decide) (by decide) (by decide) (by show _ ≤ mc; omega) (by show _ ≤ ms; omega) dX9_init_34 ?_
  replace hf := ob_some hf
  obtain ⟨g27, h28, hf⟩ := hf
  refine V.putF (pc := 36) C kX9 (k := 8) (by decide) wd_1058 rfl hin rfl rfl rfl h28 dX9_init_36 ?_
  refine V.aload_n (pc := 39) C dX9_init_39 0 rfl ?_
  refine V.bipush (pc := 40) C dX9_init_40 (v := (7 : Int32)) (by decide) ?_
  replace hf := bmp_some hf
  obtain ⟨b29, b30, hf, h31, h32⟩ := hf
  refine V.newI (pc := 42) (M := 7) C wd_106 (by decide) (by decide) (by decide) (by show _ ≤ mc; omega) (by show _ ≤ ms; omega) dX9_init_42 ?_
  replace hf := ob_some hf
  obtain ⟨g34, h35, hf⟩ := hf
  refine V.putF (pc := 44) C kX9 (k := 9) (by decide) wd_1059 rfl hin rfl rfl rfl h35 dX9_init_44 ?_
  refine V.aload_n (pc := 47) C dX9_init_47 0 rfl ?_
  refine V.bipush (pc := 48) C dX9_init_48 (v := (7 : Int32)) (by decide) ?_
  replace hf := bmp_some hf
  obtain ⟨b36, b37, hf, h38, h39⟩ := hf
  refine V.newI (pc := 50) (M := 7) C wd_106 (by decide) (by decide) (by decide) (by show _ ≤ mc; omega) (by show _ ≤ ms; omega) dX9_init_50 ?_
  replace hf := ob_some hf
  obtain ⟨g41, h42, hf⟩ := hf
  refine V.putF (pc := 52) C kX9 (k := 10) (by decide) wd_1060 rfl hin rfl rfl rfl h42 dX9_init_52 ?_
  refine V.aload_n (pc := 55) C dX9_init_55 0 rfl ?_
  refine V.bipush (pc := 56) C dX9_init_56 (v := (15 : Int32)) (by decide) ?_
  replace hf := bmp_some hf
  obtain ⟨b43, b44, hf, h45, h46⟩ := hf
  refine V.newB (pc := 58) (M := 15) C wd_48 (by decide) (by decide) (by decide) (by show _ ≤ mc; omega) (by show _ ≤ ms; omega) dX9_init_58 ?_
  refine V.dup (pc := 60) C dX9_init_60 rfl ?_
  refine V.iconst (pc := 61) C dX9_init_61 (v := (0 : Int32)) (by decide) ?_
  refine V.bipush (pc := 62) C dX9_init_62 (v := (117 : Int32)) (by decide) ?_
  replace hf := ob_some hf
  obtain ⟨g48, h49, hf⟩ := hf
  refine V.bast (pc := 64) C h49 dX9_init_64 ?_
  refine V.dup (pc := 65) C dX9_init_65 rfl ?_
  refine V.iconst (pc := 66) C dX9_init_66 (v := (1 : Int32)) (by decide) ?_
  refine V.bipush (pc := 67) C dX9_init_67 (v := (112 : Int32)) (by decide) ?_
  replace hf := ob_some hf
  obtain ⟨g50, h51, hf⟩ := hf
  refine V.bast (pc := 69) C h51 dX9_init_69 ?_
  refine V.dup (pc := 70) C dX9_init_70 rfl ?_
  refine V.iconst (pc := 71) C dX9_init_71 (v := (2 : Int32)) (by decide) ?_
  refine V.iconst (pc := 72) C dX9_init_72 (v := (0 : Int32)) (by decide) ?_
  replace hf := ob_some hf
  obtain ⟨g52, h53, hf⟩ := hf
  refine V.bast (pc := 73) C h53 dX9_init_73 ?_
  refine V.dup (pc := 74) C dX9_init_74 rfl ?_
  refine V.iconst (pc := 75) C dX9_init_75 (v := (3 : Int32)) (by decide) ?_
  refine V.iconst (pc := 76) C dX9_init_76 (v := (0 : Int32)) (by decide) ?_
  replace hf := ob_some hf
  obtain ⟨g54, h55, hf⟩ := hf
  refine V.bast (pc := 77) C h55 dX9_init_77 ?_
  refine V.dup (pc := 78) C dX9_init_78 rfl ?_
  refine V.iconst (pc := 79) C dX9_init_79 (v := (4 : Int32)) (by decide) ?_
  refine V.iconst (pc := 80) C dX9_init_80 (v := (0 : Int32)) (by decide) ?_
  replace hf := ob_some hf
  obtain ⟨g56, h57, hf⟩ := hf
  refine V.bast (pc := 81) C h57 dX9_init_81 ?_
  refine V.dup (pc := 82) C dX9_init_82 rfl ?_
  refine V.iconst (pc := 83) C dX9_init_83 (v := (5 : Int32)) (by decide) ?_
  refine V.bipush (pc := 84) C dX9_init_84 (v := (100 : Int32)) (by decide) ?_
  replace hf := ob_some hf
  obtain ⟨g58, h59, hf⟩ := hf
  refine V.bast (pc := 86) C h59 dX9_init_86 ?_
  refine V.dup (pc := 87) C dX9_init_87 rfl ?_
  refine V.bipush (pc := 88) C dX9_init_88 (v := (6 : Int32)) (by decide) ?_
  refine V.bipush (pc := 90) C dX9_init_90 (v := (111 : Int32)) (by decide) ?_
  replace hf := ob_some hf
  obtain ⟨g60, h61, hf⟩ := hf
  refine V.bast (pc := 92) C h61 dX9_init_92 ?_
  refine V.dup (pc := 93) C dX9_init_93 rfl ?_
  refine V.bipush (pc := 94) C dX9_init_94 (v := (7 : Int32)) (by decide) ?_
  refine V.bipush (pc := 96) C dX9_init_96 (v := (119 : Int32)) (by decide) ?_
  replace hf := ob_some hf
  obtain ⟨g62, h63, hf⟩ := hf
  refine V.bast (pc := 98) C h63 dX9_init_98 ?_
  refine V.dup (pc := 99) C dX9_init_99 rfl ?_
  refine V.bipush (pc := 100) C dX9_init_100 (v := (8 : Int32)) (by decide) ?_
  refine V.bipush (pc := 102) C dX9_init_102 (v := (110 : Int32)) (by decide) ?_
  replace hf := ob_some hf
  obtain ⟨g64, h65, hf⟩ := hf
  refine V.bast (pc := 104) C h65 dX9_init_104 ?_
  refine V.dup (pc := 105) C dX9_init_105 rfl ?_
  refine V.bipush (pc := 106) C dX9_init_106 (v := (9 : Int32)) (by decide) ?_
  refine V.iconst (pc := 108) C dX9_init_108 (v := (0 : Int32)) (by decide) ?_
  replace hf := ob_some hf
  obtain ⟨g66, h67, hf⟩ := hf
  refine V.bast (pc := 109) C h67 dX9_init_109 ?_
  refine V.dup (pc := 110) C dX9_init_110 rfl ?_
  refine V.bipush (pc := 111) C dX9_init_111 (v := (10 : Int32)) (by decide) ?_
  refine V.bipush (pc := 113) C dX9_init_113 (v := (97 : Int32)) (by decide) ?_
  replace hf := ob_some hf
  obtain ⟨g68, h69, hf⟩ := hf
  refine V.bast (pc := 115) C h69 dX9_init_115 ?_
  refine V.dup (pc := 116) C dX9_init_116 rfl ?_
  refine V.bipush (pc := 117) C dX9_init_117 (v := (11 : Int32)) (by decide) ?_
  refine V.bipush (pc := 119) C dX9_init_119 (v := (110 : Int32)) (by decide) ?_
  replace hf := ob_some hf
  obtain ⟨g70, h71, hf⟩ := hf
  refine V.bast (pc := 121) C h71 dX9_init_121 ?_
  refine V.dup (pc := 122) C dX9_init_122 rfl ?_
  refine V.bipush (pc := 123) C dX9_init_123 (v := (12 : Int32)) (by decide) ?_
  refine V.bipush (pc := 125) C dX9_init_125 (v := (121 : Int32)) (by decide) ?_
  replace hf := ob_some hf
  obtain ⟨g72, h73, hf⟩ := hf
  refine V.bast (pc := 127) C h73 dX9_init_127 ?_
  refine V.dup (pc := 128) C dX9_init_128 rfl ?_
  refine V.bipush (pc := 129) C dX9_init_129 (v := (13 : Int32)) (by decide) ?_
  refine V.iconst (pc := 131) C dX9_init_131 (v := (0 : Int32)) (by decide) ?_
  replace hf := ob_some hf
  obtain ⟨g74, h75, hf⟩ := hf
  refine V.bast (pc := 132) C h75 dX9_init_132 ?_
  refine V.dup (pc := 133) C dX9_init_133 rfl ?_
  refine V.bipush (pc := 134) C dX9_init_134 (v := (14 : Int32)) (by decide) ?_
  refine V.iconst (pc := 136) C dX9_init_136 (v := (0 : Int32)) (by decide) ?_
  replace hf := ob_some hf
  obtain ⟨g76, h77, hf⟩ := hf
  refine V.bast (pc := 137) C h77 dX9_init_137 ?_
  replace hf := ob_some hf
  obtain ⟨g78, h79, hf⟩ := hf
  refine V.putF (pc := 138) C kX9 (k := 12) (by decide) wd_1062 rfl hin rfl rfl rfl h79 dX9_init_138 ?_
  refine V.aload_n (pc := 141) C dX9_init_141 0 rfl ?_
  refine V.sipush (pc := 142) C dX9_init_142 (v := (133 : Int32)) (by decide) ?_
  replace hf := bmp_some hf
  obtain ⟨b80, b81, hf, h82, h83⟩ := hf
  refine V.newI (pc := 145) (M := 133) C wd_106 (by decide) (by decide) (by decide) (by show _ ≤ mc; omega) (by show _ ≤ ms; omega) dX9_init_145 ?_
  replace hf := ob_some hf
  obtain ⟨g85, h86, hf⟩ := hf
  refine V.putF (pc := 147) C kX9 (k := 16) (by decide) wd_1066 rfl hin rfl rfl rfl h86 dX9_init_147 ?_
  refine V.aload_n (pc := 150) C dX9_init_150 0 rfl ?_
  refine V.sipush (pc := 151) C dX9_init_151 (v := (133 : Int32)) (by decide) ?_
  replace hf := bmp_some hf
  obtain ⟨b87, b88, hf, h89, h90⟩ := hf
  refine V.newI (pc := 154) (M := 133) C wd_106 (by decide) (by decide) (by decide) (by show _ ≤ mc; omega) (by show _ ≤ ms; omega) dX9_init_154 ?_
  replace hf := ob_some hf
  obtain ⟨g92, h93, hf⟩ := hf
  refine V.putF (pc := 156) C kX9 (k := 17) (by decide) wd_1067 rfl hin rfl rfl rfl h93 dX9_init_156 ?_
  refine V.aload_n (pc := 159) C dX9_init_159 0 rfl ?_
  refine V.sipush (pc := 160) C dX9_init_160 (v := (2660 : Int32)) (by decide) ?_
  replace hf := bmp_some hf
  obtain ⟨b94, b95, hf, h96, h97⟩ := hf
  refine V.newI (pc := 163) (M := 2660) C wd_106 (by decide) (by decide) (by decide) (by show _ ≤ mc; omega) (by show _ ≤ ms; omega) dX9_init_163 ?_
  replace hf := ob_some hf
  obtain ⟨g99, h100, hf⟩ := hf
  refine V.putF (pc := 165) C kX9 (k := 18) (by decide) wd_1068 rfl hin rfl rfl rfl h100 dX9_init_165 ?_
  refine V.aload_n (pc := 168) C dX9_init_168 0 rfl ?_
  refine V.bipush (pc := 169) C dX9_init_169 (v := (120 : Int32)) (by decide) ?_
  replace hf := bmp_some hf
  obtain ⟨b101, b102, hf, h103, h104⟩ := hf
  refine V.newI (pc := 171) (M := 120) C wd_106 (by decide) (by decide) (by decide) (by show _ ≤ mc; omega) (by show _ ≤ ms; omega) dX9_init_171 ?_
  replace hf := ob_some hf
  obtain ⟨g106, h107, hf⟩ := hf
  refine V.putF (pc := 173) C kX9 (k := 21) (by decide) wd_1071 rfl hin rfl rfl rfl h107 dX9_init_173 ?_
  refine V.aload_n (pc := 176) C dX9_init_176 0 rfl ?_
  refine V.sipush (pc := 177) C dX9_init_177 (v := (4804 : Int32)) (by decide) ?_
  replace hf := bmp_some hf
  obtain ⟨b108, b109, hf, h110, h111⟩ := hf
  refine V.newJ (pc := 180) (M := 4804) C wd_742 (by decide) (by decide) (by decide) (by show _ ≤ mc; omega) (by show _ ≤ ms; omega) dX9_init_180 ?_
  replace hf := ob_some hf
  obtain ⟨g113, h114, hf⟩ := hf
  refine V.putF (pc := 182) C kX9 (k := 25) (by decide) wd_1075 rfl hin rfl rfl rfl h114 dX9_init_182 ?_
  refine V.aload_n (pc := 185) C dX9_init_185 0 rfl ?_
  refine V.sipush (pc := 186) C dX9_init_186 (v := (1201 : Int32)) (by decide) ?_
  replace hf := bmp_some hf
  obtain ⟨b115, b116, hf, h117, h118⟩ := hf
  refine V.newI (pc := 189) (M := 1201) C wd_106 (by decide) (by decide) (by decide) (by show _ ≤ mc; omega) (by show _ ≤ ms; omega) dX9_init_189 ?_
  replace hf := ob_some hf
  obtain ⟨g120, h121, hf⟩ := hf
  refine V.putF (pc := 191) C kX9 (k := 26) (by decide) wd_1076 rfl hin rfl rfl rfl h121 dX9_init_191 ?_
  refine V.aload_n (pc := 194) C dX9_init_194 0 rfl ?_
  refine V.sipush (pc := 195) C dX9_init_195 (v := (1201 : Int32)) (by decide) ?_
  replace hf := bmp_some hf
  obtain ⟨b122, b123, hf, h124, h125⟩ := hf
  refine V.newI (pc := 198) (M := 1201) C wd_106 (by decide) (by decide) (by decide) (by show _ ≤ mc; omega) (by show _ ≤ ms; omega) dX9_init_198 ?_
  replace hf := ob_some hf
  obtain ⟨g127, h128, hf⟩ := hf
  refine V.putF (pc := 200) C kX9 (k := 27) (by decide) wd_1077 rfl hin rfl rfl rfl h128 dX9_init_200 ?_
  refine V.aload_n (pc := 203) C dX9_init_203 0 rfl ?_
  refine V.sipush (pc := 204) C dX9_init_204 (v := (1201 : Int32)) (by decide) ?_
  replace hf := bmp_some hf
  obtain ⟨b129, b130, hf, h131, h132⟩ := hf
  refine V.newI (pc := 207) (M := 1201) C wd_106 (by decide) (by decide) (by decide) (by show _ ≤ mc; omega) (by show _ ≤ ms; omega) dX9_init_207 ?_
  replace hf := ob_some hf
  obtain ⟨g134, h135, hf⟩ := hf
  refine V.putF (pc := 209) C kX9 (k := 28) (by decide) wd_1078 rfl hin rfl rfl rfl h135 dX9_init_209 ?_
  refine V.aload_n (pc := 212) C dX9_init_212 0 rfl ?_
  refine V.bipush (pc := 213) C dX9_init_213 (v := (64 : Int32)) (by decide) ?_
  replace hf := bmp_some hf
  obtain ⟨b136, b137, hf, h138, h139⟩ := hf
  refine V.newI (pc := 215) (M := 64) C wd_106 (by decide) (by decide) (by decide) (by show _ ≤ mc; omega) (by show _ ≤ ms; omega) dX9_init_215 ?_
  replace hf := ob_some hf
  obtain ⟨g141, h142, hf⟩ := hf
  refine V.putF (pc := 217) C kX9 (k := 31) (by decide) wd_1081 rfl hin rfl rfl rfl h142 dX9_init_217 ?_
  refine V.aload_n (pc := 220) C dX9_init_220 0 rfl ?_
  refine V.bipush (pc := 221) C dX9_init_221 (v := (64 : Int32)) (by decide) ?_
  replace hf := bmp_some hf
  obtain ⟨b143, b144, hf, h145, h146⟩ := hf
  refine V.newI (pc := 223) (M := 64) C wd_106 (by decide) (by decide) (by decide) (by show _ ≤ mc; omega) (by show _ ≤ ms; omega) dX9_init_223 ?_
  replace hf := ob_some hf
  obtain ⟨g148, h149, hf⟩ := hf
  refine V.putF (pc := 225) C kX9 (k := 32) (by decide) wd_1082 rfl hin rfl rfl rfl h149 dX9_init_225 ?_
  refine V.aload_n (pc := 228) C dX9_init_228 0 rfl ?_
  refine V.iconst (pc := 229) C dX9_init_229 (v := (4 : Int32)) (by decide) ?_
  replace hf := bmp_some hf
  obtain ⟨b150, b151, hf, h152, h153⟩ := hf
  refine V.newJ (pc := 230) (M := 4) C wd_742 (by decide) (by decide) (by decide) (by show _ ≤ mc; omega) (by show _ ≤ ms; omega) dX9_init_230 ?_
  replace hf := ob_some hf
  obtain ⟨g155, h156, hf⟩ := hf
  refine V.putF (pc := 232) C kX9 (k := 33) (by decide) wd_1083 rfl hin rfl rfl rfl h156 dX9_init_232 ?_
  refine V.aload_n (pc := 235) C dX9_init_235 0 rfl ?_
  refine V.bipush (pc := 236) C dX9_init_236 (v := (10 : Int32)) (by decide) ?_
  replace hf := bmp_some hf
  obtain ⟨b157, b158, hf, h159, h160⟩ := hf
  refine V.newI (pc := 238) (M := 10) C wd_106 (by decide) (by decide) (by decide) (by show _ ≤ mc; omega) (by show _ ≤ ms; omega) dX9_init_238 ?_
  replace hf := ob_some hf
  obtain ⟨g162, h163, hf⟩ := hf
  refine V.putF (pc := 240) C kX9 (k := 34) (by decide) wd_1084 rfl hin rfl rfl rfl h163 dX9_init_240 ?_
  refine V.aload_n (pc := 243) C dX9_init_243 0 rfl ?_
  refine V.sipush (pc := 244) C dX9_init_244 (v := (720 : Int32)) (by decide) ?_
  replace hf := bmp_some hf
  obtain ⟨b164, b165, hf, h166, h167⟩ := hf
  refine V.newI (pc := 247) (M := 720) C wd_106 (by decide) (by decide) (by decide) (by show _ ≤ mc; omega) (by show _ ≤ ms; omega) dX9_init_247 ?_
  replace hf := ob_some hf
  obtain ⟨g169, h170, hf⟩ := hf
  refine V.putF (pc := 249) C kX9 (k := 35) (by decide) wd_1085 rfl hin rfl rfl rfl h170 dX9_init_249 ?_
  refine V.aload_n (pc := 252) C dX9_init_252 0 rfl ?_
  refine V.sipush (pc := 253) C dX9_init_253 (v := (240 : Int32)) (by decide) ?_
  replace hf := bmp_some hf
  obtain ⟨b171, b172, hf, h173, h174⟩ := hf
  refine V.newI (pc := 256) (M := 240) C wd_106 (by decide) (by decide) (by decide) (by show _ ≤ mc; omega) (by show _ ≤ ms; omega) dX9_init_256 ?_
  replace hf := ob_some hf
  obtain ⟨g176, h177, hf⟩ := hf
  refine V.putF (pc := 258) C kX9 (k := 37) (by decide) wd_1087 rfl hin rfl rfl rfl h177 dX9_init_258 ?_
  refine V.aload_n (pc := 261) C dX9_init_261 0 rfl ?_
  refine V.sipush (pc := 262) C dX9_init_262 (v := (28800 : Int32)) (by decide) ?_
  replace hf := bmp_some hf
  obtain ⟨b178, b179, hf, h180, h181⟩ := hf
  refine V.newI (pc := 265) (M := 28800) C wd_106 (by decide) (by decide) (by decide) (by show _ ≤ mc; omega) (by show _ ≤ ms; omega) dX9_init_265 ?_
  replace hf := ob_some hf
  obtain ⟨g183, h184, hf⟩ := hf
  refine V.putF (pc := 267) C kX9 (k := 38) (by decide) wd_1088 rfl hin rfl rfl rfl h184 dX9_init_267 ?_
  refine V.aload_n (pc := 270) C dX9_init_270 0 rfl ?_
  refine V.iconst (pc := 271) C dX9_init_271 (v := (4 : Int32)) (by decide) ?_
  replace hf := ob_some hf
  obtain ⟨q185, h186, hf⟩ := hf
  refine V.callV0v (pc := 272) C hyX9_begins wd_1046 (mX9_begins (r := q185.1) (g' := q185.2) K.2.1 E ((((((((((((((((((((((((kS K) + 1) + 1) + 1) + 1) + 1) + 1) + 1) + 1) + 1) + 1) + 1) + 1) + 1) + 1) + 1) + 1) + 1) + 1) + 1) + 1) + 1) + 1)) h186) rfl rfl rfl (oX9_begins h186) ⟨Nat.le_of_ble_eq_true rfl, Nat.le_of_ble_eq_true rfl⟩ (Nat.le_of_ble_eq_true rfl) dX9_init_272 ⟨by show _ ≤ mc; omega, by show _ ≤ ms; omega⟩ rfl ?_
  obtain ⟨f1, f2, f3, f4⟩ := fin4 hf
  clear hf
  subst f1
  subst f2
  refine V.cast (c := mc) (s := ms) (by omega) (by omega) ?_
  exact V.vret (pc := 275) C (by omega) dX9_init_275
theorem dX9_isIn_0 : decode cX9_isIn 0 = .ok (.lload_n 0, 1) := by decide +kernel
theorem dX9_isIn_1 : decode cX9_isIn 1 = .ok (.lload_n 2, 1) := by decide +kernel
theorem dX9_isIn_2 : decode cX9_isIn 2 = .ok (.lcmp, 1) := by decide +kernel
theorem dX9_isIn_3 : decode cX9_isIn 3 = .ok (.ifCond .lt 14, 3) := by decide +kernel
theorem dX9_isIn_6 : decode cX9_isIn 6 = .ok (.lload_n 0, 1) := by decide +kernel
theorem dX9_isIn_7 : decode cX9_isIn 7 = .ok (.lload 4, 2) := by decide +kernel
theorem dX9_isIn_9 : decode cX9_isIn 9 = .ok (.lcmp, 1) := by decide +kernel
theorem dX9_isIn_10 : decode cX9_isIn 10 = .ok (.ifCond .gt 7, 3) := by decide +kernel
theorem dX9_isIn_13 : decode cX9_isIn 13 = .ok (.iconst 1, 1) := by decide +kernel
theorem dX9_isIn_14 : decode cX9_isIn 14 = .ok (.goto 4, 3) := by decide +kernel
theorem dX9_isIn_17 : decode cX9_isIn 17 = .ok (.iconst 0, 1) := by decide +kernel
theorem dX9_isIn_18 : decode cX9_isIn 18 = .ok (.ireturn, 1) := by decide +kernel
def fX9_isIn (g : PH) (a0 : Int64) (a1 : Int64) (a2 : Int64) : Option (Int32 × PH) :=
  if (lg_cmp a0 a1) < 0 then (some ((0 : Int32), g)) else
  (if 0 < (lg_cmp a0 a2) then (some ((0 : Int32), g)) else
  (some ((1 : Int32), g)))
theorem hyX9_isIn : hMetS yX9_isIn cX9_isIn 6 (some .boolean) 3 := ⟨wd_1184, wd_1183, wd_7, by decide +kernel, by decide +kernel, by decide +kernel⟩
set_option maxHeartbeats 4000000 in
set_option maxRecDepth 100000 in
theorem mX9_isIn (l : Launch) (E : HE) (sz : Nat) {g g' : PH} {a0 : Int64} {a1 : Int64} {a2 : Int64} {r : Int32} (hf : fX9_isIn g a0 a1 a2 = some (r, g')) : hM l E yX9_isIn cX9_isIn 6 (some .boolean) 0 0 0 0 sz g [.long a0, .long a1, .long a2] (some (.int r)) g' := by
  refine hM.of (by decide) (Nat.le_of_ble_eq_true rfl) (fun K hl C hin hsz => ?_)
  subst hl
  subst hsz
  have C : VC K E 6 cX9_isIn RX9 (some .boolean) := C
  unfold fX9_isIn at hf
  refine V.start (L' := [(0, .long a0), (2, .long a1), (4, .long a2)]) rfl ?_
  refine V.lload_n (pc := 0) C dX9_isIn_0 0 rfl ?_
  refine V.lload_n (pc := 1) C dX9_isIn_1 1 rfl ?_
  refine V.lcmp (pc := 2) C dX9_isIn_2 ?_
  refine V.if_lt (pc := 3) (t := 17) C dX9_isIn_3 (by decide) (fun c1 => ?_) (fun c1 => ?_)
  · replace hf := ite_t c1 hf
    refine V.iconst (pc := 17) C dX9_isIn_17 (v := (0 : Int32)) (by decide) ?_
    obtain ⟨f1, f2⟩ := fin2 hf
    clear hf
    subst f1
    subst f2
    exact V.zret (pc := 18) C rfl rfl dX9_isIn_18
  replace hf := ite_f c1 hf
  refine V.lload_n (pc := 6) C dX9_isIn_6 0 rfl ?_
  refine V.lload (pc := 7) C dX9_isIn_7 2 rfl ?_
  refine V.lcmp (pc := 9) C dX9_isIn_9 ?_
  refine V.if_gt (pc := 10) (t := 17) C dX9_isIn_10 (by decide) (fun c2 => ?_) (fun c2 => ?_)
  · replace hf := ite_t c2 hf
    refine V.iconst (pc := 17) C dX9_isIn_17 (v := (0 : Int32)) (by decide) ?_
    obtain ⟨f1, f2⟩ := fin2 hf
    clear hf
    subst f1
    subst f2
    exact V.zret (pc := 18) C rfl rfl dX9_isIn_18
  replace hf := ite_f c2 hf
  refine V.iconst (pc := 13) C dX9_isIn_13 (v := (1 : Int32)) (by decide) ?_
  refine V.goto (pc := 14) (t := 18) C dX9_isIn_14 (by decide) ?_
  obtain ⟨f1, f2⟩ := fin2 hf
  clear hf
  subst f1
  subst f2
  exact V.zret (pc := 18) C rfl rfl dX9_isIn_18
theorem dX9_has_0 : decode cX9_has 0 = .ok (.iload_n 0, 1) := by decide +kernel
theorem dX9_has_1 : decode cX9_has 1 = .ok (.iload_n 1, 1) := by decide +kernel
theorem dX9_has_2 : decode cX9_has 2 = .ok (.ishr, 1) := by decide +kernel
theorem dX9_has_3 : decode cX9_has 3 = .ok (.iconst 1, 1) := by decide +kernel
theorem dX9_has_4 : decode cX9_has 4 = .ok (.iand, 1) := by decide +kernel
theorem dX9_has_5 : decode cX9_has 5 = .ok (.iconst 1, 1) := by decide +kernel
theorem dX9_has_6 : decode cX9_has 6 = .ok (.if_icmp .ne 7, 3) := by decide +kernel
theorem dX9_has_9 : decode cX9_has 9 = .ok (.iconst 1, 1) := by decide +kernel
theorem dX9_has_10 : decode cX9_has 10 = .ok (.goto 4, 3) := by decide +kernel
theorem dX9_has_13 : decode cX9_has 13 = .ok (.iconst 0, 1) := by decide +kernel
theorem dX9_has_14 : decode cX9_has 14 = .ok (.ireturn, 1) := by decide +kernel
def fX9_has (g : PH) (a0 : Int32) (a1 : Int32) : Option (Int32 × PH) :=
  if ((a0 >>> (a1 &&& 31)) &&& (1 : Int32)) = (1 : Int32) then (some ((1 : Int32), g)) else
  (some ((0 : Int32), g))
theorem hyX9_has : hMetS yX9_has cX9_has 2 (some .boolean) 2 := ⟨wd_1431, wd_1430, wd_7, by decide +kernel, by decide +kernel, by decide +kernel⟩
set_option maxHeartbeats 4000000 in
set_option maxRecDepth 100000 in
theorem mX9_has (l : Launch) (E : HE) (sz : Nat) {g g' : PH} {a0 : Int32} {a1 : Int32} {r : Int32} (hf : fX9_has g a0 a1 = some (r, g')) : hM l E yX9_has cX9_has 2 (some .boolean) 0 0 0 0 sz g [.int a0, .int a1] (some (.int r)) g' := by
  refine hM.of (by decide) (Nat.le_of_ble_eq_true rfl) (fun K hl C hin hsz => ?_)
  subst hl
  subst hsz
  have C : VC K E 2 cX9_has RX9 (some .boolean) := C
  unfold fX9_has at hf
  refine V.start (L' := [(0, .int a0), (1, .int a1)]) rfl ?_
  refine V.iload_n (pc := 0) C dX9_has_0 0 rfl ?_
  refine V.iload_n (pc := 1) C dX9_has_1 1 rfl ?_
  refine V.ishr (pc := 2) C dX9_has_2 ?_
  refine V.iconst (pc := 3) C dX9_has_3 (v := (1 : Int32)) (by decide) ?_
  refine V.iand (pc := 4) C dX9_has_4 ?_
  refine V.iconst (pc := 5) C dX9_has_5 (v := (1 : Int32)) (by decide) ?_
  refine V.icmp_ne (pc := 6) (t := 13) C dX9_has_6 (by decide) (fun c1 => ?_) (fun c1 => ?_)
  · replace hf := ite_f c1 hf
    refine V.iconst (pc := 13) C dX9_has_13 (v := (0 : Int32)) (by decide) ?_
    obtain ⟨f1, f2⟩ := fin2 hf
    clear hf
    subst f1
    subst f2
    exact V.zret (pc := 14) C rfl rfl dX9_has_14
  replace hf := ite_t c1 hf
  refine V.iconst (pc := 9) C dX9_has_9 (v := (1 : Int32)) (by decide) ?_
  refine V.goto (pc := 10) (t := 14) C dX9_has_10 (by decide) ?_
  obtain ⟨f1, f2⟩ := fin2 hf
  clear hf
  subst f1
  subst f2
  exact V.zret (pc := 14) C rfl rfl dX9_has_14
theorem dX9_with_0 : decode cX9_with 0 = .ok (.iload_n 2, 1) := by decide +kernel
theorem dX9_with_1 : decode cX9_with 1 = .ok (.iconst 1, 1) := by decide +kernel
theorem dX9_with_2 : decode cX9_with 2 = .ok (.if_icmp .ne 11, 3) := by decide +kernel
theorem dX9_with_5 : decode cX9_with 5 = .ok (.iload_n 0, 1) := by decide +kernel
theorem dX9_with_6 : decode cX9_with 6 = .ok (.iconst 1, 1) := by decide +kernel
theorem dX9_with_7 : decode cX9_with 7 = .ok (.iload_n 1, 1) := by decide +kernel
theorem dX9_with_8 : decode cX9_with 8 = .ok (.ishl, 1) := by decide +kernel
theorem dX9_with_9 : decode cX9_with 9 = .ok (.ior, 1) := by decide +kernel
theorem dX9_with_10 : decode cX9_with 10 = .ok (.goto 10, 3) := by decide +kernel
theorem dX9_with_13 : decode cX9_with 13 = .ok (.iload_n 0, 1) := by decide +kernel
theorem dX9_with_14 : decode cX9_with 14 = .ok (.iconst 1, 1) := by decide +kernel
theorem dX9_with_15 : decode cX9_with 15 = .ok (.iload_n 1, 1) := by decide +kernel
theorem dX9_with_16 : decode cX9_with 16 = .ok (.ishl, 1) := by decide +kernel
theorem dX9_with_17 : decode cX9_with 17 = .ok (.iconst (-1), 1) := by decide +kernel
theorem dX9_with_18 : decode cX9_with 18 = .ok (.ixor, 1) := by decide +kernel
theorem dX9_with_19 : decode cX9_with 19 = .ok (.iand, 1) := by decide +kernel
theorem dX9_with_20 : decode cX9_with 20 = .ok (.ireturn, 1) := by decide +kernel
def fX9_with (g : PH) (a0 : Int32) (a1 : Int32) (a2 : Int32) : Option (Int32 × PH) :=
  if a2 = (1 : Int32) then (some ((a0 ||| ((1 : Int32) <<< (a1 &&& 31))), g)) else
  (some ((a0 &&& (((1 : Int32) <<< (a1 &&& 31)) ^^^ (-1 : Int32))), g))
theorem hyX9_with : hMetS yX9_with cX9_with 3 (some .int) 3 := ⟨wd_1347, wd_1346, wd_7, by decide +kernel, by decide +kernel, by decide +kernel⟩
set_option maxHeartbeats 4000000 in
set_option maxRecDepth 100000 in
theorem mX9_with (l : Launch) (E : HE) (sz : Nat) {g g' : PH} {a0 : Int32} {a1 : Int32} {a2 : Int32} {r : Int32} (hf : fX9_with g a0 a1 a2 = some (r, g')) : hM l E yX9_with cX9_with 3 (some .int) 0 0 0 0 sz g [.int a0, .int a1, .int a2] (some (.int r)) g' := by
  refine hM.of (by decide) (Nat.le_of_ble_eq_true rfl) (fun K hl C hin hsz => ?_)
  subst hl
  subst hsz
  have C : VC K E 3 cX9_with RX9 (some .int) := C
  unfold fX9_with at hf
  refine V.start (L' := [(0, .int a0), (1, .int a1), (2, .int a2)]) rfl ?_
  refine V.iload_n (pc := 0) C dX9_with_0 2 rfl ?_
  refine V.iconst (pc := 1) C dX9_with_1 (v := (1 : Int32)) (by decide) ?_
  refine V.icmp_ne (pc := 2) (t := 13) C dX9_with_2 (by decide) (fun c1 => ?_) (fun c1 => ?_)
  · replace hf := ite_f c1 hf
    refine V.iload_n (pc := 13) C dX9_with_13 0 rfl ?_
    refine V.iconst (pc := 14) C dX9_with_14 (v := (1 : Int32)) (by decide) ?_
    refine V.iload_n (pc := 15) C dX9_with_15 1 rfl ?_
    refine V.ishl (pc := 16) C dX9_with_16 ?_
    refine V.iconst (pc := 17) C dX9_with_17 (v := (-1 : Int32)) (by decide) ?_
    refine V.ixor (pc := 18) C dX9_with_18 ?_
    refine V.iand (pc := 19) C dX9_with_19 ?_
    obtain ⟨f1, f2⟩ := fin2 hf
    clear hf
    subst f1
    subst f2
    exact V.iret (pc := 20) C rfl dX9_with_20
  replace hf := ite_t c1 hf
  refine V.iload_n (pc := 5) C dX9_with_5 0 rfl ?_
  refine V.iconst (pc := 6) C dX9_with_6 (v := (1 : Int32)) (by decide) ?_
  refine V.iload_n (pc := 7) C dX9_with_7 1 rfl ?_
  refine V.ishl (pc := 8) C dX9_with_8 ?_
  refine V.ior (pc := 9) C dX9_with_9 ?_
  refine V.goto (pc := 10) (t := 20) C dX9_with_10 (by decide) ?_
  obtain ⟨f1, f2⟩ := fin2 hf
  clear hf
  subst f1
  subst f2
  exact V.iret (pc := 20) C rfl dX9_with_20
theorem dX9_feed_0 : decode cX9_feed 0 = .ok (.aload_n 0, 1) := by decide +kernel
theorem dX9_feed_1 : decode cX9_feed 1 = .ok (.getfield 82, 3) := by decide +kernel
theorem dX9_feed_4 : decode cX9_feed 4 = .ok (.sipush 180, 3) := by decide +kernel
theorem dX9_feed_7 : decode cX9_feed 7 = .ok (.if_icmp .le 5, 3) := by decide +kernel
theorem dX9_feed_10 : decode cX9_feed 10 = .ok (.iconst (-1), 1) := by decide +kernel
theorem dX9_feed_11 : decode cX9_feed 11 = .ok (.ireturn, 1) := by decide +kernel
theorem dX9_feed_12 : decode cX9_feed 12 = .ok (.iconst 0, 1) := by decide +kernel
theorem dX9_feed_13 : decode cX9_feed 13 = .ok (.istore 6, 2) := by decide +kernel
theorem dX9_feed_15 : decode cX9_feed 15 = .ok (.iload 6, 2) := by decide +kernel
theorem dX9_feed_17 : decode cX9_feed 17 = .ok (.bipush 20, 2) := by decide +kernel
theorem dX9_feed_19 : decode cX9_feed 19 = .ok (.if_icmp .ge 83, 3) := by decide +kernel
theorem dX9_feed_22 : decode cX9_feed 22 = .ok (.iload 6, 2) := by decide +kernel
theorem dX9_feed_24 : decode cX9_feed 24 = .ok (.iconst 4, 1) := by decide +kernel
theorem dX9_feed_25 : decode cX9_feed 25 = .ok (.if_icmp .ge 7, 3) := by decide +kernel
theorem dX9_feed_28 : decode cX9_feed 28 = .ok (.iload_n 1, 1) := by decide +kernel
theorem dX9_feed_29 : decode cX9_feed 29 = .ok (.goto 39, 3) := by decide +kernel
theorem dX9_feed_32 : decode cX9_feed 32 = .ok (.iload 6, 2) := by decide +kernel
theorem dX9_feed_34 : decode cX9_feed 34 = .ok (.bipush 8, 2) := by decide +kernel
theorem dX9_feed_36 : decode cX9_feed 36 = .ok (.if_icmp .ge 7, 3) := by decide +kernel
theorem dX9_feed_39 : decode cX9_feed 39 = .ok (.iload_n 2, 1) := by decide +kernel
theorem dX9_feed_40 : decode cX9_feed 40 = .ok (.goto 28, 3) := by decide +kernel
theorem dX9_feed_43 : decode cX9_feed 43 = .ok (.iload 6, 2) := by decide +kernel
theorem dX9_feed_45 : decode cX9_feed 45 = .ok (.bipush 12, 2) := by decide +kernel
theorem dX9_feed_47 : decode cX9_feed 47 = .ok (.if_icmp .ge 7, 3) := by decide +kernel
theorem dX9_feed_50 : decode cX9_feed 50 = .ok (.iload_n 3, 1) := by decide +kernel
theorem dX9_feed_51 : decode cX9_feed 51 = .ok (.goto 17, 3) := by decide +kernel
theorem dX9_feed_54 : decode cX9_feed 54 = .ok (.iload 6, 2) := by decide +kernel
theorem dX9_feed_56 : decode cX9_feed 56 = .ok (.bipush 16, 2) := by decide +kernel
theorem dX9_feed_58 : decode cX9_feed 58 = .ok (.if_icmp .ge 8, 3) := by decide +kernel
theorem dX9_feed_61 : decode cX9_feed 61 = .ok (.iload 4, 2) := by decide +kernel
theorem dX9_feed_63 : decode cX9_feed 63 = .ok (.goto 5, 3) := by decide +kernel
theorem dX9_feed_66 : decode cX9_feed 66 = .ok (.iload 5, 2) := by decide +kernel
theorem dX9_feed_68 : decode cX9_feed 68 = .ok (.istore 7, 2) := by decide +kernel
theorem dX9_feed_70 : decode cX9_feed 70 = .ok (.aload_n 0, 1) := by decide +kernel
theorem dX9_feed_71 : decode cX9_feed 71 = .ok (.getfield 7, 3) := by decide +kernel
theorem dX9_feed_74 : decode cX9_feed 74 = .ok (.aload_n 0, 1) := by decide +kernel
theorem dX9_feed_75 : decode cX9_feed 75 = .ok (.getfield 82, 3) := by decide +kernel
theorem dX9_feed_78 : decode cX9_feed 78 = .ok (.iload 6, 2) := by decide +kernel
theorem dX9_feed_80 : decode cX9_feed 80 = .ok (.iadd, 1) := by decide +kernel
theorem dX9_feed_81 : decode cX9_feed 81 = .ok (.iload 7, 2) := by decide +kernel
theorem dX9_feed_83 : decode cX9_feed 83 = .ok (.bipush 24, 2) := by decide +kernel
theorem dX9_feed_85 : decode cX9_feed 85 = .ok (.bipush 8, 2) := by decide +kernel
theorem dX9_feed_87 : decode cX9_feed 87 = .ok (.iload 6, 2) := by decide +kernel
theorem dX9_feed_89 : decode cX9_feed 89 = .ok (.iconst 4, 1) := by decide +kernel
theorem dX9_feed_90 : decode cX9_feed 90 = .ok (.irem, 1) := by decide +kernel
theorem dX9_feed_91 : decode cX9_feed 91 = .ok (.imul, 1) := by decide +kernel
theorem dX9_feed_92 : decode cX9_feed 92 = .ok (.isub, 1) := by decide +kernel
theorem dX9_feed_93 : decode cX9_feed 93 = .ok (.ishr, 1) := by decide +kernel
theorem dX9_feed_94 : decode cX9_feed 94 = .ok (.i2b, 1) := by decide +kernel
theorem dX9_feed_95 : decode cX9_feed 95 = .ok (.bastore, 1) := by decide +kernel
theorem dX9_feed_96 : decode cX9_feed 96 = .ok (.iinc 6 1, 3) := by decide +kernel
theorem dX9_feed_99 : decode cX9_feed 99 = .ok (.goto (-84), 3) := by decide +kernel
theorem dX9_feed_102 : decode cX9_feed 102 = .ok (.aload_n 0, 1) := by decide +kernel
theorem dX9_feed_103 : decode cX9_feed 103 = .ok (.dup, 1) := by decide +kernel
theorem dX9_feed_104 : decode cX9_feed 104 = .ok (.getfield 82, 3) := by decide +kernel
theorem dX9_feed_107 : decode cX9_feed 107 = .ok (.bipush 20, 2) := by decide +kernel
theorem dX9_feed_109 : decode cX9_feed 109 = .ok (.iadd, 1) := by decide +kernel
theorem dX9_feed_110 : decode cX9_feed 110 = .ok (.putfield 82, 3) := by decide +kernel
theorem dX9_feed_113 : decode cX9_feed 113 = .ok (.aload_n 0, 1) := by decide +kernel
theorem dX9_feed_114 : decode cX9_feed 114 = .ok (.getfield 82, 3) := by decide +kernel
theorem dX9_feed_117 : decode cX9_feed 117 = .ok (.ireturn, 1) := by decide +kernel
def fX9_feed_68 (k15 : PH → Nat → Int32 → Int32 → Int32 → Int32 → Int32 → Int32 → Option (Int32 × PH)) (g : PH) (v0 : Nat) (v1 : Int32) (v2 : Int32) (v3 : Int32) (v4 : Int32) (v5 : Int32) (v6 : Int32) (s0 : Int32) : Option (Int32 × PH) :=
  (getR g v0 9 0).bind fun p1 =>
  ((getI g v0 9 1).bind fun x3 =>
  ((stI g p1 1 (x3 + v6) (vp_nar .byte (s0 >>> (((24 : Int32) - ((8 : Int32) * (v6 - v6 / (4 : Int32) * (4 : Int32)))) &&& 31)).toInt8.toInt32)).bind fun g5 =>
  (k15 g5 v0 v1 v2 v3 v4 v5 (v6 + (1 : Int32)))))
set_option maxHeartbeats 4000000 in
set_option maxRecDepth 100000 in
theorem bX9_feed_68 {K : HK} {E : HE} {r : Int32} {g' : PH} {k15 : PH → Nat → Int32 → Int32 → Int32 → Int32 → Int32 → Int32 → Option (Int32 × PH)} (C : VC K E 8 cX9_feed RX9 (some .int)) (hk15 : ∀ (g : PH) (v0 : Nat) (v1 : Int32) (v2 : Int32) (v3 : Int32) (v4 : Int32) (v5 : Int32) (v6 : Int32), k15 g v0 v1 v2 v3 v4 v5 v6 = some (r, g') → V K E (hRm 0 0 0 0) 8 (hZ K E (some (.int r)) g' 0 0) 0 0 (kS K) g 15 [(0, .ref v0), (1, .int v1), (2, .int v2), (3, .int v3), (4, .int v4), (5, .int v5), (6, .int v6)] []) {g : PH} {v0 : Nat} {v1 : Int32} {v2 : Int32} {v3 : Int32} {v4 : Int32} {v5 : Int32} {v6 : Int32} {s0 : Int32} (hf : fX9_feed_68 k15 g v0 v1 v2 v3 v4 v5 v6 s0 = some (r, g')) : V K E (hRm 0 0 0 0) 8 (hZ K E (some (.int r)) g' 0 0) 0 0 (kS K) g 68 [(0, .ref v0), (1, .int v1), (2, .int v2), (3, .int v3), (4, .int v4), (5, .int v5), (6, .int v6)] [.int s0] := by
  unfold fX9_feed_68 at hf
  refine V.istore (pc := 68) (L' := [(7, .int s0), (0, .ref v0), (1, .int v1), (2, .int v2), (3, .int v3), (4, .int v4), (5, .int v5), (6, .int v6)]) C dX9_feed_68 (by decide) rfl ?_
  refine V.aload_n (pc := 70) C dX9_feed_70 1 rfl ?_
  replace hf := ob_some hf
  obtain ⟨p1, h2, hf⟩ := hf
  refine V.getR (pc := 71) C kX9 (k := 0) (by decide) wd_1050 h2 dX9_feed_71 ?_
  refine V.aload_n (pc := 74) C dX9_feed_74 1 rfl ?_
  replace hf := ob_some hf
  obtain ⟨x3, h4, hf⟩ := hf
  refine V.getI (pc := 75) C kX9 (k := 1) (by decide) wd_1051 h4 dX9_feed_75 ?_
  refine V.iload (pc := 78) C dX9_feed_78 7 rfl ?_
  refine V.iadd (pc := 80) C dX9_feed_80 ?_
  refine V.iload (pc := 81) C dX9_feed_81 0 rfl ?_
  refine V.bipush (pc := 83) C dX9_feed_83 (v := (24 : Int32)) (by decide) ?_
  refine V.bipush (pc := 85) C dX9_feed_85 (v := (8 : Int32)) (by decide) ?_
  refine V.iload (pc := 87) C dX9_feed_87 7 rfl ?_
  refine V.iconst (pc := 89) C dX9_feed_89 (v := (4 : Int32)) (by decide) ?_
  refine V.irem (pc := 90) C dX9_feed_90 (by decide) ?_
  refine V.imul (pc := 91) C dX9_feed_91 ?_
  refine V.isub (pc := 92) C dX9_feed_92 ?_
  refine V.ishr (pc := 93) C dX9_feed_93 ?_
  refine V.i2b (pc := 94) C dX9_feed_94 ?_
  replace hf := ob_some hf
  obtain ⟨g5, h6, hf⟩ := hf
  refine V.bast (pc := 95) C h6 dX9_feed_95 ?_
  refine V.iinc (pc := 96) (v := (v6 + (1 : Int32))) (L' := [(6, .int (v6 + (1 : Int32))), (7, .int s0), (0, .ref v0), (1, .int v1), (2, .int v2), (3, .int v3), (4, .int v4), (5, .int v5)]) C dX9_feed_96 7 rfl rfl (by decide) rfl ?_
  refine V.goto (pc := 99) (t := 15) C dX9_feed_99 (by decide) ?_
  refine V.sub (L' := [(0, .ref v0), (1, .int v1), (2, .int v2), (3, .int v3), (4, .int v4), (5, .int v5), (6, .int (v6 + (1 : Int32)))]) [2, 3, 4, 5, 6, 7, 0] rfl ?_
  exact hk15 _ _ _ _ _ _ _ _ hf
def fX9_feed_15  : Nat → PH → Nat → Int32 → Int32 → Int32 → Int32 → Int32 → Int32 → Option (Int32 × PH)
  | 0, _, _, _, _, _, _, _, _ => none
  | n + 1, g, v0, v1, v2, v3, v4, v5, v6 =>
  if (20 : Int32) ≤ v6 then ((getI g v0 9 1).bind fun x2 =>
  ((putV g v0 9 1 (.int (x2 + (20 : Int32)))).bind fun g4 =>
  ((getI g4 v0 9 1).bind fun x6 =>
  (some (x6, g4))))) else
  (if (4 : Int32) ≤ v6 then (if (8 : Int32) ≤ v6 then (if (12 : Int32) ≤ v6 then (if (16 : Int32) ≤ v6 then (fX9_feed_68 (fX9_feed_15 n) g v0 v1 v2 v3 v4 v5 v6 v5) else
  (fX9_feed_68 (fX9_feed_15 n) g v0 v1 v2 v3 v4 v5 v6 v4)) else
  (fX9_feed_68 (fX9_feed_15 n) g v0 v1 v2 v3 v4 v5 v6 v3)) else
  (fX9_feed_68 (fX9_feed_15 n) g v0 v1 v2 v3 v4 v5 v6 v2)) else
  (fX9_feed_68 (fX9_feed_15 n) g v0 v1 v2 v3 v4 v5 v6 v1))
set_option maxHeartbeats 4000000 in
set_option maxRecDepth 100000 in
theorem bX9_feed_15 {K : HK} {E : HE} {r : Int32} {g' : PH}  (C : VC K E 8 cX9_feed RX9 (some .int))  : ∀ (n : Nat) (g : PH) (v0 : Nat) (v1 : Int32) (v2 : Int32) (v3 : Int32) (v4 : Int32) (v5 : Int32) (v6 : Int32), fX9_feed_15  n g v0 v1 v2 v3 v4 v5 v6 = some (r, g') → V K E (hRm 0 0 0 0) 8 (hZ K E (some (.int r)) g' 0 0) 0 0 (kS K) g 15 [(0, .ref v0), (1, .int v1), (2, .int v2), (3, .int v3), (4, .int v4), (5, .int v5), (6, .int v6)] [] := by
  intro n
  induction n with
  | zero =>
    intro g v0 v1 v2 v3 v4 v5 v6 hf
    rw [fX9_feed_15] at hf
    cases hf
  | succ n ih =>
    intro g v0 v1 v2 v3 v4 v5 v6 hf
    rw [fX9_feed_15] at hf
    refine V.iload (pc := 15) C dX9_feed_15 6 rfl ?_
    refine V.bipush (pc := 17) C dX9_feed_17 (v := (20 : Int32)) (by decide) ?_
    refine V.icmp_ge (pc := 19) (t := 102) C dX9_feed_19 (by decide) (fun c1 => ?_) (fun c1 => ?_)
    · replace hf := ite_t c1 hf
      refine V.aload_n (pc := 102) C dX9_feed_102 0 rfl ?_
      refine V.dup (pc := 103) C dX9_feed_103 rfl ?_
      replace hf := ob_some hf
      obtain ⟨x2, h3, hf⟩ := hf
      refine V.getI (pc := 104) C kX9 (k := 1) (by decide) wd_1051 h3 dX9_feed_104 ?_
      refine V.bipush (pc := 107) C dX9_feed_107 (v := (20 : Int32)) (by decide) ?_
      refine V.iadd (pc := 109) C dX9_feed_109 ?_
      replace hf := ob_some hf
      obtain ⟨g4, h5, hf⟩ := hf
      refine V.putX (pc := 110) C kX9 (k := 1) (by decide) wd_1051 rfl rfl rfl h5 dX9_feed_110 ?_
      refine V.aload_n (pc := 113) C dX9_feed_113 0 rfl ?_
      replace hf := ob_some hf
      obtain ⟨x6, h7, hf⟩ := hf
      refine V.getI (pc := 114) C kX9 (k := 1) (by decide) wd_1051 h7 dX9_feed_114 ?_
      obtain ⟨f1, f2⟩ := fin2 hf
      clear hf
      subst f1
      subst f2
      exact V.iret (pc := 117) C rfl dX9_feed_117
    replace hf := ite_f c1 hf
    refine V.iload (pc := 22) C dX9_feed_22 6 rfl ?_
    refine V.iconst (pc := 24) C dX9_feed_24 (v := (4 : Int32)) (by decide) ?_
    refine V.icmp_ge (pc := 25) (t := 32) C dX9_feed_25 (by decide) (fun c8 => ?_) (fun c8 => ?_)
    · replace hf := ite_t c8 hf
      refine V.iload (pc := 32) C dX9_feed_32 6 rfl ?_
      refine V.bipush (pc := 34) C dX9_feed_34 (v := (8 : Int32)) (by decide) ?_
      refine V.icmp_ge (pc := 36) (t := 43) C dX9_feed_36 (by decide) (fun c9 => ?_) (fun c9 => ?_)
      · replace hf := ite_t c9 hf
        refine V.iload (pc := 43) C dX9_feed_43 6 rfl ?_
        refine V.bipush (pc := 45) C dX9_feed_45 (v := (12 : Int32)) (by decide) ?_
        refine V.icmp_ge (pc := 47) (t := 54) C dX9_feed_47 (by decide) (fun c10 => ?_) (fun c10 => ?_)
        · replace hf := ite_t c10 hf
          refine V.iload (pc := 54) C dX9_feed_54 6 rfl ?_
          refine V.bipush (pc := 56) C dX9_feed_56 (v := (16 : Int32)) (by decide) ?_
          refine V.icmp_ge (pc := 58) (t := 66) C dX9_feed_58 (by decide) (fun c11 => ?_) (fun c11 => ?_)
          · replace hf := ite_t c11 hf
            refine V.iload (pc := 66) C dX9_feed_66 5 rfl ?_
            refine V.sub (L' := [(0, .ref v0), (1, .int v1), (2, .int v2), (3, .int v3), (4, .int v4), (5, .int v5), (6, .int v6)]) [0, 1, 2, 3, 4, 5, 6] rfl ?_
            exact bX9_feed_68 C ih hf
          replace hf := ite_f c11 hf
          refine V.iload (pc := 61) C dX9_feed_61 4 rfl ?_
          refine V.goto (pc := 63) (t := 68) C dX9_feed_63 (by decide) ?_
          refine V.sub (L' := [(0, .ref v0), (1, .int v1), (2, .int v2), (3, .int v3), (4, .int v4), (5, .int v5), (6, .int v6)]) [0, 1, 2, 3, 4, 5, 6] rfl ?_
          exact bX9_feed_68 C ih hf
        replace hf := ite_f c10 hf
        refine V.iload_n (pc := 50) C dX9_feed_50 3 rfl ?_
        refine V.goto (pc := 51) (t := 68) C dX9_feed_51 (by decide) ?_
        refine V.sub (L' := [(0, .ref v0), (1, .int v1), (2, .int v2), (3, .int v3), (4, .int v4), (5, .int v5), (6, .int v6)]) [0, 1, 2, 3, 4, 5, 6] rfl ?_
        exact bX9_feed_68 C ih hf
      replace hf := ite_f c9 hf
      refine V.iload_n (pc := 39) C dX9_feed_39 2 rfl ?_
      refine V.goto (pc := 40) (t := 68) C dX9_feed_40 (by decide) ?_
      refine V.sub (L' := [(0, .ref v0), (1, .int v1), (2, .int v2), (3, .int v3), (4, .int v4), (5, .int v5), (6, .int v6)]) [0, 1, 2, 3, 4, 5, 6] rfl ?_
      exact bX9_feed_68 C ih hf
    replace hf := ite_f c8 hf
    refine V.iload_n (pc := 28) C dX9_feed_28 1 rfl ?_
    refine V.goto (pc := 29) (t := 68) C dX9_feed_29 (by decide) ?_
    refine V.sub (L' := [(0, .ref v0), (1, .int v1), (2, .int v2), (3, .int v3), (4, .int v4), (5, .int v5), (6, .int v6)]) [0, 1, 2, 3, 4, 5, 6] rfl ?_
    exact bX9_feed_68 C ih hf
def fX9_feed (g : PH) (a0 : Nat) (a1 : Int32) (a2 : Int32) (a3 : Int32) (a4 : Int32) (a5 : Int32) : Option (Int32 × PH) :=
  okb (isO g a0 9) ((getI g a0 9 1).bind fun x1 =>
  (if x1 ≤ (180 : Int32) then (fX9_feed_15 FUEL g a0 a1 a2 a3 a4 a5 (0 : Int32)) else
  (some ((-1 : Int32), g))))
theorem oX9_feed {g : PH} {a0 : Nat} {a1 : Int32} {a2 : Int32} {a3 : Int32} {a4 : Int32} {a5 : Int32} {q : (Int32 × PH)} (h : fX9_feed g a0 a1 a2 a3 a4 a5 = some q) : isO g a0 9 = true := by unfold fX9_feed at h; exact (okb_some h).1
theorem hyX9_feed : hMet yX9_feed RX9 cX9_feed 8 (some .int) 5 := ⟨wd_1177, wd_1175, wd_1176, wd_7, rfl, by decide +kernel, by decide +kernel, by decide +kernel⟩
set_option maxHeartbeats 4000000 in
set_option maxRecDepth 100000 in
theorem mX9_feed (l : Launch) (E : HE) (sz : Nat) {g g' : PH} {a0 : Nat} {a1 : Int32} {a2 : Int32} {a3 : Int32} {a4 : Int32} {a5 : Int32} {r : Int32} (hf : fX9_feed g a0 a1 a2 a3 a4 a5 = some (r, g')) : hM l E yX9_feed cX9_feed 8 (some .int) 0 0 0 0 sz g [.ref a0, .int a1, .int a2, .int a3, .int a4, .int a5] (some (.int r)) g' := by
  refine hM.of (by decide) (Nat.le_of_ble_eq_true rfl) (fun K hl C hin hsz => ?_)
  subst hl
  subst hsz
  have C : VC K E 8 cX9_feed RX9 (some .int) := C
  unfold fX9_feed at hf
  replace hf := okb_some hf
  obtain ⟨ho, hf⟩ := hf
  refine V.start (L' := [(0, .ref a0), (1, .int a1), (2, .int a2), (3, .int a3), (4, .int a4), (5, .int a5)]) rfl ?_
  refine V.aload_n (pc := 0) C dX9_feed_0 0 rfl ?_
  replace hf := ob_some hf
  obtain ⟨x1, h2, hf⟩ := hf
  refine V.getI (pc := 1) C kX9 (k := 1) (by decide) wd_1051 h2 dX9_feed_1 ?_
  refine V.sipush (pc := 4) C dX9_feed_4 (v := (180 : Int32)) (by decide) ?_
  refine V.icmp_le (pc := 7) (t := 12) C dX9_feed_7 (by decide) (fun c3 => ?_) (fun c3 => ?_)
  · replace hf := ite_t c3 hf
    refine V.iconst (pc := 12) C dX9_feed_12 (v := (0 : Int32)) (by decide) ?_
    refine V.istore (pc := 13) (L' := [(6, .int (0 : Int32)), (0, .ref a0), (1, .int a1), (2, .int a2), (3, .int a3), (4, .int a4), (5, .int a5)]) C dX9_feed_13 (by decide) rfl ?_
    refine V.sub (L' := [(0, .ref a0), (1, .int a1), (2, .int a2), (3, .int a3), (4, .int a4), (5, .int a5), (6, .int (0 : Int32))]) [1, 2, 3, 4, 5, 6, 0] rfl ?_
    exact bX9_feed_15 C  _ _ _ _ _ _ _ _ _ hf
  replace hf := ite_f c3 hf
  refine V.iconst (pc := 10) C dX9_feed_10 (v := (-1 : Int32)) (by decide) ?_
  obtain ⟨f1, f2⟩ := fin2 hf
  clear hf
  subst f1
  subst f2
  exact V.iret (pc := 11) C rfl dX9_feed_11
theorem dX9_end_0 : decode cX9_end 0 = .ok (.iload_n 1, 1) := by decide +kernel
theorem dX9_end_1 : decode cX9_end 1 = .ok (.i2l, 1) := by decide +kernel
theorem dX9_end_2 : decode cX9_end 2 = .ok (.lconst 0, 1) := by decide +kernel
theorem dX9_end_3 : decode cX9_end 3 = .ok (.aload_n 0, 1) := by decide +kernel
theorem dX9_end_4 : decode cX9_end 4 = .ok (.getfield 82, 3) := by decide +kernel
theorem dX9_end_7 : decode cX9_end 7 = .ok (.i2l, 1) := by decide +kernel
theorem dX9_end_8 : decode cX9_end 8 = .ok (.invokestatic 86, 3) := by decide +kernel
theorem dX9_end_11 : decode cX9_end 11 = .ok (.ifCond .ne 5, 3) := by decide +kernel
theorem dX9_end_14 : decode cX9_end 14 = .ok (.iconst (-1), 1) := by decide +kernel
theorem dX9_end_15 : decode cX9_end 15 = .ok (.ireturn, 1) := by decide +kernel
theorem dX9_end_16 : decode cX9_end 16 = .ok (.aload_n 0, 1) := by decide +kernel
theorem dX9_end_17 : decode cX9_end 17 = .ok (.iload_n 1, 1) := by decide +kernel
theorem dX9_end_18 : decode cX9_end 18 = .ok (.putfield 82, 3) := by decide +kernel
theorem dX9_end_21 : decode cX9_end 21 = .ok (.iload_n 1, 1) := by decide +kernel
theorem dX9_end_22 : decode cX9_end 22 = .ok (.ireturn, 1) := by decide +kernel
def fX9_end (g : PH) (a0 : Nat) (a1 : Int32) : Option (Int32 × PH) :=
  okb (isO g a0 9) ((getI g a0 9 1).bind fun x1 =>
  ((fX9_isIn g a1.toInt64 (0 : Int64) x1.toInt64).bind fun q3 =>
  (if q3.1 = 0 then (some ((-1 : Int32), q3.2)) else
  ((putV q3.2 a0 9 1 (.int a1)).bind fun g6 =>
  (some (a1, g6))))))
theorem oX9_end {g : PH} {a0 : Nat} {a1 : Int32} {q : (Int32 × PH)} (h : fX9_end g a0 a1 = some q) : isO g a0 9 = true := by unfold fX9_end at h; exact (okb_some h).1
theorem hyX9_end : hMet yX9_end RX9 cX9_end 2 (some .int) 1 := ⟨wd_1181, wd_1179, wd_1180, wd_7, rfl, by decide +kernel, by decide +kernel, by decide +kernel⟩
set_option maxHeartbeats 4000000 in
set_option maxRecDepth 100000 in
theorem mX9_end (l : Launch) (E : HE) (sz : Nat) {g g' : PH} {a0 : Nat} {a1 : Int32} {r : Int32} (hf : fX9_end g a0 a1 = some (r, g')) : hM l E yX9_end cX9_end 2 (some .int) 1 25 0 0 sz g [.ref a0, .int a1] (some (.int r)) g' := by
  refine hM.of (by decide) (Nat.le_of_ble_eq_true rfl) (fun K hl C hin hsz => ?_)
  subst hl
  subst hsz
  have C : VC K E 2 cX9_end RX9 (some .int) := C
  unfold fX9_end at hf
  replace hf := okb_some hf
  obtain ⟨ho, hf⟩ := hf
  refine V.start (L' := [(0, .ref a0), (1, .int a1)]) rfl ?_
  refine V.iload_n (pc := 0) C dX9_end_0 1 rfl ?_
  refine V.i2l (pc := 1) C dX9_end_1 ?_
  refine V.lconst (pc := 2) C dX9_end_2 (v := (0 : Int64)) (by decide) ?_
  refine V.aload_n (pc := 3) C dX9_end_3 0 rfl ?_
  replace hf := ob_some hf
  obtain ⟨x1, h2, hf⟩ := hf
  refine V.getI (pc := 4) C kX9 (k := 1) (by decide) wd_1051 h2 dX9_end_4 ?_
  refine V.i2l (pc := 7) C dX9_end_7 ?_
  replace hf := ob_some hf
  obtain ⟨q3, h4, hf⟩ := hf
  refine V.callS0i (pc := 8) C hyX9_isIn wd_1182 (mX9_isIn (r := q3.1) (g' := q3.2) K.2.1 E (kS K) h4) rfl ⟨Nat.le_of_ble_eq_true rfl, Nat.le_of_ble_eq_true rfl⟩ (Nat.le_of_ble_eq_true rfl) dX9_end_8 ⟨Nat.zero_le _, Nat.zero_le _⟩ rfl ?_
  refine V.if_ne (pc := 11) (t := 16) C dX9_end_11 (by decide) (fun c5 => ?_) (fun c5 => ?_)
  · replace hf := ite_f c5 hf
    refine V.aload_n (pc := 16) C dX9_end_16 0 rfl ?_
    refine V.iload_n (pc := 17) C dX9_end_17 1 rfl ?_
    replace hf := ob_some hf
    obtain ⟨g6, h7, hf⟩ := hf
    refine V.putX (pc := 18) C kX9 (k := 1) (by decide) wd_1051 rfl rfl rfl h7 dX9_end_18 ?_
    refine V.iload_n (pc := 21) C dX9_end_21 1 rfl ?_
    obtain ⟨f1, f2⟩ := fin2 hf
    clear hf
    subst f1
    subst f2
    exact V.iret (pc := 22) C rfl dX9_end_22
  replace hf := ite_t c5 hf
  refine V.iconst (pc := 14) C dX9_end_14 (v := (-1 : Int32)) (by decide) ?_
  obtain ⟨f1, f2⟩ := fin2 hf
  clear hf
  subst f1
  subst f2
  exact V.iret (pc := 15) C rfl dX9_end_15
theorem dX9_fails_0 : decode cX9_fails 0 = .ok (.aload_n 0, 1) := by decide +kernel
theorem dX9_fails_1 : decode cX9_fails 1 = .ok (.bipush 8, 2) := by decide +kernel
theorem dX9_fails_3 : decode cX9_fails 3 = .ok (.iload_n 2, 1) := by decide +kernel
theorem dX9_fails_4 : decode cX9_fails 4 = .ok (.imul, 1) := by decide +kernel
theorem dX9_fails_5 : decode cX9_fails 5 = .ok (.iload_n 1, 1) := by decide +kernel
theorem dX9_fails_6 : decode cX9_fails 6 = .ok (.iadd, 1) := by decide +kernel
theorem dX9_fails_7 : decode cX9_fails 7 = .ok (.putfield 90, 3) := by decide +kernel
theorem dX9_fails_10 : decode cX9_fails 10 = .ok (.iconst 0, 1) := by decide +kernel
theorem dX9_fails_11 : decode cX9_fails 11 = .ok (.ireturn, 1) := by decide +kernel
def fX9_fails (g : PH) (a0 : Nat) (a1 : Int32) (a2 : Int32) : Option (Int32 × PH) :=
  okb (isO g a0 9) ((putV g a0 9 3 (.int (((8 : Int32) * a2) + a1))).bind fun g1 =>
  (some ((0 : Int32), g1)))
theorem oX9_fails {g : PH} {a0 : Nat} {a1 : Int32} {a2 : Int32} {q : (Int32 × PH)} (h : fX9_fails g a0 a1 a2 = some q) : isO g a0 9 = true := by unfold fX9_fails at h; exact (okb_some h).1
theorem hyX9_fails : hMet yX9_fails RX9 cX9_fails 3 (some .boolean) 2 := ⟨wd_1211, wd_1210, ws_54, wd_7, rfl, by decide +kernel, by decide +kernel, by decide +kernel⟩
set_option maxHeartbeats 4000000 in
set_option maxRecDepth 100000 in
theorem mX9_fails (l : Launch) (E : HE) (sz : Nat) {g g' : PH} {a0 : Nat} {a1 : Int32} {a2 : Int32} {r : Int32} (hf : fX9_fails g a0 a1 a2 = some (r, g')) : hM l E yX9_fails cX9_fails 3 (some .boolean) 0 0 0 0 sz g [.ref a0, .int a1, .int a2] (some (.int r)) g' := by
  refine hM.of (by decide) (Nat.le_of_ble_eq_true rfl) (fun K hl C hin hsz => ?_)
  subst hl
  subst hsz
  have C : VC K E 3 cX9_fails RX9 (some .boolean) := C
  unfold fX9_fails at hf
  replace hf := okb_some hf
  obtain ⟨ho, hf⟩ := hf
  refine V.start (L' := [(0, .ref a0), (1, .int a1), (2, .int a2)]) rfl ?_
  refine V.aload_n (pc := 0) C dX9_fails_0 0 rfl ?_
  refine V.bipush (pc := 1) C dX9_fails_1 (v := (8 : Int32)) (by decide) ?_
  refine V.iload_n (pc := 3) C dX9_fails_3 2 rfl ?_
  refine V.imul (pc := 4) C dX9_fails_4 ?_
  refine V.iload_n (pc := 5) C dX9_fails_5 1 rfl ?_
  refine V.iadd (pc := 6) C dX9_fails_6 ?_
  replace hf := ob_some hf
  obtain ⟨g1, h2, hf⟩ := hf
  refine V.putX (pc := 7) C kX9 (k := 3) (by decide) wd_1053 rfl rfl rfl h2 dX9_fails_7 ?_
  refine V.iconst (pc := 10) C dX9_fails_10 (v := (0 : Int32)) (by decide) ?_
  obtain ⟨f1, f2⟩ := fin2 hf
  clear hf
  subst f1
  subst f2
  exact V.zret (pc := 11) C rfl rfl dX9_fails_11
theorem dX9_byteAt_0 : decode cX9_byteAt 0 = .ok (.iload_n 1, 1) := by decide +kernel
theorem dX9_byteAt_1 : decode cX9_byteAt 1 = .ok (.aload_n 0, 1) := by decide +kernel
theorem dX9_byteAt_2 : decode cX9_byteAt 2 = .ok (.getfield 82, 3) := by decide +kernel
theorem dX9_byteAt_5 : decode cX9_byteAt 5 = .ok (.if_icmp .ge 16, 3) := by decide +kernel
theorem dX9_byteAt_8 : decode cX9_byteAt 8 = .ok (.aload_n 0, 1) := by decide +kernel
theorem dX9_byteAt_9 : decode cX9_byteAt 9 = .ok (.getfield 7, 3) := by decide +kernel
theorem dX9_byteAt_12 : decode cX9_byteAt 12 = .ok (.iload_n 1, 1) := by decide +kernel
theorem dX9_byteAt_13 : decode cX9_byteAt 13 = .ok (.baload, 1) := by decide +kernel
theorem dX9_byteAt_14 : decode cX9_byteAt 14 = .ok (.sipush 255, 3) := by decide +kernel
theorem dX9_byteAt_17 : decode cX9_byteAt 17 = .ok (.iand, 1) := by decide +kernel
theorem dX9_byteAt_18 : decode cX9_byteAt 18 = .ok (.goto 4, 3) := by decide +kernel
theorem dX9_byteAt_21 : decode cX9_byteAt 21 = .ok (.iconst (-1), 1) := by decide +kernel
theorem dX9_byteAt_22 : decode cX9_byteAt 22 = .ok (.ireturn, 1) := by decide +kernel
def fX9_byteAt (g : PH) (a0 : Nat) (a1 : Int32) : Option (Int32 × PH) :=
  okb (isO g a0 9) ((getI g a0 9 1).bind fun x1 =>
  (if x1 ≤ a1 then (some ((-1 : Int32), g)) else
  ((getR g a0 9 0).bind fun p4 =>
  ((ldI g p4 1 a1).bind fun x6 =>
  (some ((x6 &&& (255 : Int32)), g))))))
theorem oX9_byteAt {g : PH} {a0 : Nat} {a1 : Int32} {q : (Int32 × PH)} (h : fX9_byteAt g a0 a1 = some q) : isO g a0 9 = true := by unfold fX9_byteAt at h; exact (okb_some h).1
theorem hyX9_byteAt : hMet yX9_byteAt RX9 cX9_byteAt 2 (some .int) 1 := ⟨wd_1204, wd_1203, ws_53, wd_7, rfl, by decide +kernel, by decide +kernel, by decide +kernel⟩
set_option maxHeartbeats 4000000 in
set_option maxRecDepth 100000 in
theorem mX9_byteAt (l : Launch) (E : HE) (sz : Nat) {g g' : PH} {a0 : Nat} {a1 : Int32} {r : Int32} (hf : fX9_byteAt g a0 a1 = some (r, g')) : hM l E yX9_byteAt cX9_byteAt 2 (some .int) 0 0 0 0 sz g [.ref a0, .int a1] (some (.int r)) g' := by
  refine hM.of (by decide) (Nat.le_of_ble_eq_true rfl) (fun K hl C hin hsz => ?_)
  subst hl
  subst hsz
  have C : VC K E 2 cX9_byteAt RX9 (some .int) := C
  unfold fX9_byteAt at hf
  replace hf := okb_some hf
  obtain ⟨ho, hf⟩ := hf
  refine V.start (L' := [(0, .ref a0), (1, .int a1)]) rfl ?_
  refine V.iload_n (pc := 0) C dX9_byteAt_0 1 rfl ?_
  refine V.aload_n (pc := 1) C dX9_byteAt_1 0 rfl ?_
  replace hf := ob_some hf
  obtain ⟨x1, h2, hf⟩ := hf
  refine V.getI (pc := 2) C kX9 (k := 1) (by decide) wd_1051 h2 dX9_byteAt_2 ?_
  refine V.icmp_ge (pc := 5) (t := 21) C dX9_byteAt_5 (by decide) (fun c3 => ?_) (fun c3 => ?_)
  · replace hf := ite_t c3 hf
    refine V.iconst (pc := 21) C dX9_byteAt_21 (v := (-1 : Int32)) (by decide) ?_
    obtain ⟨f1, f2⟩ := fin2 hf
    clear hf
    subst f1
    subst f2
    exact V.iret (pc := 22) C rfl dX9_byteAt_22
  replace hf := ite_f c3 hf
  refine V.aload_n (pc := 8) C dX9_byteAt_8 0 rfl ?_
  replace hf := ob_some hf
  obtain ⟨p4, h5, hf⟩ := hf
  refine V.getR (pc := 9) C kX9 (k := 0) (by decide) wd_1050 h5 dX9_byteAt_9 ?_
  refine V.iload_n (pc := 12) C dX9_byteAt_12 1 rfl ?_
  replace hf := ob_some hf
  obtain ⟨x6, h7, hf⟩ := hf
  refine V.bald (pc := 13) C h7 dX9_byteAt_13 ?_
  refine V.sipush (pc := 14) C dX9_byteAt_14 (v := (255 : Int32)) (by decide) ?_
  refine V.iand (pc := 17) C dX9_byteAt_17 ?_
  refine V.goto (pc := 18) (t := 22) C dX9_byteAt_18 (by decide) ?_
  obtain ⟨f1, f2⟩ := fin2 hf
  clear hf
  subst f1
  subst f2
  exact V.iret (pc := 22) C rfl dX9_byteAt_22
theorem dX9_next_0 : decode cX9_next 0 = .ok (.aload_n 0, 1) := by decide +kernel
theorem dX9_next_1 : decode cX9_next 1 = .ok (.aload_n 0, 1) := by decide +kernel
theorem dX9_next_2 : decode cX9_next 2 = .ok (.getfield 93, 3) := by decide +kernel
theorem dX9_next_5 : decode cX9_next 5 = .ok (.invokevirtual 96, 3) := by decide +kernel
theorem dX9_next_8 : decode cX9_next 8 = .ok (.bipush 32, 2) := by decide +kernel
theorem dX9_next_10 : decode cX9_next 10 = .ok (.if_icmp .ne 16, 3) := by decide +kernel
theorem dX9_next_13 : decode cX9_next 13 = .ok (.aload_n 0, 1) := by decide +kernel
theorem dX9_next_14 : decode cX9_next 14 = .ok (.dup, 1) := by decide +kernel
theorem dX9_next_15 : decode cX9_next 15 = .ok (.getfield 93, 3) := by decide +kernel
theorem dX9_next_18 : decode cX9_next 18 = .ok (.iconst 1, 1) := by decide +kernel
theorem dX9_next_19 : decode cX9_next 19 = .ok (.iadd, 1) := by decide +kernel
theorem dX9_next_20 : decode cX9_next 20 = .ok (.putfield 93, 3) := by decide +kernel
theorem dX9_next_23 : decode cX9_next 23 = .ok (.goto (-23), 3) := by decide +kernel
theorem dX9_next_26 : decode cX9_next 26 = .ok (.aload_n 0, 1) := by decide +kernel
theorem dX9_next_27 : decode cX9_next 27 = .ok (.aload_n 0, 1) := by decide +kernel
theorem dX9_next_28 : decode cX9_next 28 = .ok (.getfield 93, 3) := by decide +kernel
theorem dX9_next_31 : decode cX9_next 31 = .ok (.invokevirtual 96, 3) := by decide +kernel
theorem dX9_next_34 : decode cX9_next 34 = .ok (.ireturn, 1) := by decide +kernel
def fX9_next_0  : Nat → PH → Nat → Option (Int32 × PH)
  | 0, _, _ => none
  | n + 1, g, v0 =>
  (getI g v0 9 2).bind fun x1 =>
  ((fX9_byteAt g v0 x1).bind fun q3 =>
  (if q3.1 = (32 : Int32) then ((getI q3.2 v0 9 2).bind fun x10 =>
  ((putV q3.2 v0 9 2 (.int (x10 + (1 : Int32)))).bind fun g12 =>
  (fX9_next_0 n g12 v0))) else
  ((getI q3.2 v0 9 2).bind fun x6 =>
  ((fX9_byteAt q3.2 v0 x6).bind fun q8 =>
  (some (q8.1, q8.2))))))
set_option maxHeartbeats 4000000 in
set_option maxRecDepth 100000 in
theorem bX9_next_0 {K : HK} {E : HE} {r : Int32} {g' : PH}  (C : VC K E 1 cX9_next RX9 (some .int))  : ∀ (n : Nat) (g : PH) (v0 : Nat), fX9_next_0  n g v0 = some (r, g') → V K E (hRm 1 21 0 0) 1 (hZ K E (some (.int r)) g' 0 0) 0 0 (kS K) g 0 [(0, .ref v0)] [] := by
  intro n
  induction n with
  | zero =>
    intro g v0 hf
    rw [fX9_next_0] at hf
    cases hf
  | succ n ih =>
    intro g v0 hf
    rw [fX9_next_0] at hf
    refine V.aload_n (pc := 0) C dX9_next_0 0 rfl ?_
    refine V.aload_n (pc := 1) C dX9_next_1 0 rfl ?_
    replace hf := ob_some hf
    obtain ⟨x1, h2, hf⟩ := hf
    refine V.getI (pc := 2) C kX9 (k := 2) (by decide) wd_1052 h2 dX9_next_2 ?_
    replace hf := ob_some hf
    obtain ⟨q3, h4, hf⟩ := hf
    refine V.callV0i (pc := 5) C hyX9_byteAt wd_1201 (mX9_byteAt (r := q3.1) (g' := q3.2) K.2.1 E (kS K) h4) rfl rfl rfl (oX9_byteAt h4) ⟨Nat.le_of_ble_eq_true rfl, Nat.le_of_ble_eq_true rfl⟩ (Nat.le_of_ble_eq_true rfl) dX9_next_5 ⟨Nat.zero_le _, Nat.zero_le _⟩ rfl ?_
    refine V.bipush (pc := 8) C dX9_next_8 (v := (32 : Int32)) (by decide) ?_
    refine V.icmp_ne (pc := 10) (t := 26) C dX9_next_10 (by decide) (fun c5 => ?_) (fun c5 => ?_)
    · replace hf := ite_f c5 hf
      refine V.aload_n (pc := 26) C dX9_next_26 0 rfl ?_
      refine V.aload_n (pc := 27) C dX9_next_27 0 rfl ?_
      replace hf := ob_some hf
      obtain ⟨x6, h7, hf⟩ := hf
      refine V.getI (pc := 28) C kX9 (k := 2) (by decide) wd_1052 h7 dX9_next_28 ?_
      replace hf := ob_some hf
      obtain ⟨q8, h9, hf⟩ := hf
      refine V.callV0i (pc := 31) C hyX9_byteAt wd_1201 (mX9_byteAt (r := q8.1) (g' := q8.2) K.2.1 E (kS K) h9) rfl rfl rfl (oX9_byteAt h9) ⟨Nat.le_of_ble_eq_true rfl, Nat.le_of_ble_eq_true rfl⟩ (Nat.le_of_ble_eq_true rfl) dX9_next_31 ⟨Nat.zero_le _, Nat.zero_le _⟩ rfl ?_
      obtain ⟨f1, f2⟩ := fin2 hf
      clear hf
      subst f1
      subst f2
      exact V.iret (pc := 34) C rfl dX9_next_34
    replace hf := ite_t c5 hf
    refine V.aload_n (pc := 13) C dX9_next_13 0 rfl ?_
    refine V.dup (pc := 14) C dX9_next_14 rfl ?_
    replace hf := ob_some hf
    obtain ⟨x10, h11, hf⟩ := hf
    refine V.getI (pc := 15) C kX9 (k := 2) (by decide) wd_1052 h11 dX9_next_15 ?_
    refine V.iconst (pc := 18) C dX9_next_18 (v := (1 : Int32)) (by decide) ?_
    refine V.iadd (pc := 19) C dX9_next_19 ?_
    replace hf := ob_some hf
    obtain ⟨g12, h13, hf⟩ := hf
    refine V.putX (pc := 20) C kX9 (k := 2) (by decide) wd_1052 rfl rfl rfl h13 dX9_next_20 ?_
    refine V.goto (pc := 23) (t := 0) C dX9_next_23 (by decide) ?_
    refine V.sub (L' := [(0, .ref v0)]) [0] rfl ?_
    exact ih _ _ hf
def fX9_next (g : PH) (a0 : Nat) : Option (Int32 × PH) :=
  okb (isO g a0 9) (fX9_next_0 FUEL g a0)
theorem oX9_next {g : PH} {a0 : Nat} {q : (Int32 × PH)} (h : fX9_next g a0 = some q) : isO g a0 9 = true := by unfold fX9_next at h; exact (okb_some h).1
theorem hyX9_next : hMet yX9_next RX9 cX9_next 1 (some .int) 0 := ⟨wd_1200, wd_1199, ws_52, wd_7, rfl, by decide +kernel, by decide +kernel, by decide +kernel⟩
set_option maxHeartbeats 4000000 in
set_option maxRecDepth 100000 in
theorem mX9_next (l : Launch) (E : HE) (sz : Nat) {g g' : PH} {a0 : Nat} {r : Int32} (hf : fX9_next g a0 = some (r, g')) : hM l E yX9_next cX9_next 1 (some .int) 1 21 0 0 sz g [.ref a0] (some (.int r)) g' := by
  refine hM.of (by decide) (Nat.le_of_ble_eq_true rfl) (fun K hl C hin hsz => ?_)
  subst hl
  subst hsz
  have C : VC K E 1 cX9_next RX9 (some .int) := C
  unfold fX9_next at hf
  replace hf := okb_some hf
  obtain ⟨ho, hf⟩ := hf
  refine V.start (L' := [(0, .ref a0)]) rfl ?_
  refine V.sub (L' := [(0, .ref a0)]) [0] rfl ?_
  exact bX9_next_0 C  _ _ _ hf
theorem dX9_takes_0 : decode cX9_takes 0 = .ok (.aload_n 0, 1) := by decide +kernel
theorem dX9_takes_1 : decode cX9_takes 1 = .ok (.invokevirtual 100, 3) := by decide +kernel
theorem dX9_takes_4 : decode cX9_takes 4 = .ok (.iload_n 1, 1) := by decide +kernel
theorem dX9_takes_5 : decode cX9_takes 5 = .ok (.if_icmp .eq 5, 3) := by decide +kernel
theorem dX9_takes_8 : decode cX9_takes 8 = .ok (.iconst 0, 1) := by decide +kernel
theorem dX9_takes_9 : decode cX9_takes 9 = .ok (.ireturn, 1) := by decide +kernel
theorem dX9_takes_10 : decode cX9_takes 10 = .ok (.aload_n 0, 1) := by decide +kernel
theorem dX9_takes_11 : decode cX9_takes 11 = .ok (.dup, 1) := by decide +kernel
theorem dX9_takes_12 : decode cX9_takes 12 = .ok (.getfield 93, 3) := by decide +kernel
theorem dX9_takes_15 : decode cX9_takes 15 = .ok (.iconst 1, 1) := by decide +kernel
theorem dX9_takes_16 : decode cX9_takes 16 = .ok (.iadd, 1) := by decide +kernel
theorem dX9_takes_17 : decode cX9_takes 17 = .ok (.putfield 93, 3) := by decide +kernel
theorem dX9_takes_20 : decode cX9_takes 20 = .ok (.iconst 1, 1) := by decide +kernel
theorem dX9_takes_21 : decode cX9_takes 21 = .ok (.ireturn, 1) := by decide +kernel
def fX9_takes (g : PH) (a0 : Nat) (a1 : Int32) : Option (Int32 × PH) :=
  okb (isO g a0 9) ((fX9_next g a0).bind fun q1 =>
  (if q1.1 = a1 then ((getI q1.2 a0 9 2).bind fun x4 =>
  ((putV q1.2 a0 9 2 (.int (x4 + (1 : Int32)))).bind fun g6 =>
  (some ((1 : Int32), g6)))) else
  (some ((0 : Int32), q1.2))))
theorem oX9_takes {g : PH} {a0 : Nat} {a1 : Int32} {q : (Int32 × PH)} (h : fX9_takes g a0 a1 = some q) : isO g a0 9 = true := by unfold fX9_takes at h; exact (okb_some h).1
theorem hyX9_takes : hMet yX9_takes RX9 cX9_takes 2 (some .boolean) 1 := ⟨wd_1235, wd_1234, ws_60, wd_7, rfl, by decide +kernel, by decide +kernel, by decide +kernel⟩
set_option maxHeartbeats 4000000 in
set_option maxRecDepth 100000 in
theorem mX9_takes (l : Launch) (E : HE) (sz : Nat) {g g' : PH} {a0 : Nat} {a1 : Int32} {r : Int32} (hf : fX9_takes g a0 a1 = some (r, g')) : hM l E yX9_takes cX9_takes 2 (some .boolean) 2 41 0 0 sz g [.ref a0, .int a1] (some (.int r)) g' := by
  refine hM.of (by decide) (Nat.le_of_ble_eq_true rfl) (fun K hl C hin hsz => ?_)
  subst hl
  subst hsz
  have C : VC K E 2 cX9_takes RX9 (some .boolean) := C
  unfold fX9_takes at hf
  replace hf := okb_some hf
  obtain ⟨ho, hf⟩ := hf
  refine V.start (L' := [(0, .ref a0), (1, .int a1)]) rfl ?_
  refine V.aload_n (pc := 0) C dX9_takes_0 0 rfl ?_
  replace hf := ob_some hf
  obtain ⟨q1, h2, hf⟩ := hf
  refine V.callV0i (pc := 1) C hyX9_next wd_1197 (mX9_next (r := q1.1) (g' := q1.2) K.2.1 E (kS K) h2) rfl rfl rfl (oX9_next h2) ⟨Nat.le_of_ble_eq_true rfl, Nat.le_of_ble_eq_true rfl⟩ (Nat.le_of_ble_eq_true rfl) dX9_takes_1 ⟨Nat.zero_le _, Nat.zero_le _⟩ rfl ?_
  refine V.iload_n (pc := 4) C dX9_takes_4 1 rfl ?_
  refine V.icmp_eq (pc := 5) (t := 10) C dX9_takes_5 (by decide) (fun c3 => ?_) (fun c3 => ?_)
  · replace hf := ite_t c3 hf
    refine V.aload_n (pc := 10) C dX9_takes_10 0 rfl ?_
    refine V.dup (pc := 11) C dX9_takes_11 rfl ?_
    replace hf := ob_some hf
    obtain ⟨x4, h5, hf⟩ := hf
    refine V.getI (pc := 12) C kX9 (k := 2) (by decide) wd_1052 h5 dX9_takes_12 ?_
    refine V.iconst (pc := 15) C dX9_takes_15 (v := (1 : Int32)) (by decide) ?_
    refine V.iadd (pc := 16) C dX9_takes_16 ?_
    replace hf := ob_some hf
    obtain ⟨g6, h7, hf⟩ := hf
    refine V.putX (pc := 17) C kX9 (k := 2) (by decide) wd_1052 rfl rfl rfl h7 dX9_takes_17 ?_
    refine V.iconst (pc := 20) C dX9_takes_20 (v := (1 : Int32)) (by decide) ?_
    obtain ⟨f1, f2⟩ := fin2 hf
    clear hf
    subst f1
    subst f2
    exact V.zret (pc := 21) C rfl rfl dX9_takes_21
  replace hf := ite_f c3 hf
  refine V.iconst (pc := 8) C dX9_takes_8 (v := (0 : Int32)) (by decide) ?_
  obtain ⟨f1, f2⟩ := fin2 hf
  clear hf
  subst f1
  subst f2
  exact V.zret (pc := 9) C rfl rfl dX9_takes_9
theorem dX9_needs_0 : decode cX9_needs 0 = .ok (.aload_n 0, 1) := by decide +kernel
theorem dX9_needs_1 : decode cX9_needs 1 = .ok (.iload_n 1, 1) := by decide +kernel
theorem dX9_needs_2 : decode cX9_needs 2 = .ok (.invokevirtual 104, 3) := by decide +kernel
theorem dX9_needs_5 : decode cX9_needs 5 = .ok (.ifCond .ne 15, 3) := by decide +kernel
theorem dX9_needs_8 : decode cX9_needs 8 = .ok (.aload_n 0, 1) := by decide +kernel
theorem dX9_needs_9 : decode cX9_needs 9 = .ok (.iconst 1, 1) := by decide +kernel
theorem dX9_needs_10 : decode cX9_needs 10 = .ok (.aload_n 0, 1) := by decide +kernel
theorem dX9_needs_11 : decode cX9_needs 11 = .ok (.getfield 93, 3) := by decide +kernel
theorem dX9_needs_14 : decode cX9_needs 14 = .ok (.invokevirtual 108, 3) := by decide +kernel
theorem dX9_needs_17 : decode cX9_needs 17 = .ok (.ifCond .eq 7, 3) := by decide +kernel
theorem dX9_needs_20 : decode cX9_needs 20 = .ok (.iconst 1, 1) := by decide +kernel
theorem dX9_needs_21 : decode cX9_needs 21 = .ok (.goto 4, 3) := by decide +kernel
theorem dX9_needs_24 : decode cX9_needs 24 = .ok (.iconst 0, 1) := by decide +kernel
theorem dX9_needs_25 : decode cX9_needs 25 = .ok (.ireturn, 1) := by decide +kernel
def fX9_needs (g : PH) (a0 : Nat) (a1 : Int32) : Option (Int32 × PH) :=
  okb (isO g a0 9) ((fX9_takes g a0 a1).bind fun q1 =>
  (if q1.1 = 0 then ((getI q1.2 a0 9 2).bind fun x4 =>
  ((fX9_fails q1.2 a0 (1 : Int32) x4).bind fun q6 =>
  (if q6.1 = 0 then (some ((0 : Int32), q6.2)) else
  (some ((1 : Int32), q6.2))))) else
  (some ((1 : Int32), q1.2))))
theorem oX9_needs {g : PH} {a0 : Nat} {a1 : Int32} {q : (Int32 × PH)} (h : fX9_needs g a0 a1 = some q) : isO g a0 9 = true := by unfold fX9_needs at h; exact (okb_some h).1
theorem hyX9_needs : hMet yX9_needs RX9 cX9_needs 2 (some .boolean) 1 := ⟨wd_1239, wd_1238, ws_61, wd_7, rfl, by decide +kernel, by decide +kernel, by decide +kernel⟩
set_option maxHeartbeats 4000000 in
set_option maxRecDepth 100000 in
theorem mX9_needs (l : Launch) (E : HE) (sz : Nat) {g g' : PH} {a0 : Nat} {a1 : Int32} {r : Int32} (hf : fX9_needs g a0 a1 = some (r, g')) : hM l E yX9_needs cX9_needs 2 (some .boolean) 3 62 0 0 sz g [.ref a0, .int a1] (some (.int r)) g' := by
  refine hM.of (by decide) (Nat.le_of_ble_eq_true rfl) (fun K hl C hin hsz => ?_)
  subst hl
  subst hsz
  have C : VC K E 2 cX9_needs RX9 (some .boolean) := C
  unfold fX9_needs at hf
  replace hf := okb_some hf
  obtain ⟨ho, hf⟩ := hf
  refine V.start (L' := [(0, .ref a0), (1, .int a1)]) rfl ?_
  refine V.aload_n (pc := 0) C dX9_needs_0 0 rfl ?_
  refine V.iload_n (pc := 1) C dX9_needs_1 1 rfl ?_
  replace hf := ob_some hf
  obtain ⟨q1, h2, hf⟩ := hf
  refine V.callV0i (pc := 2) C hyX9_takes wd_1232 (mX9_takes (r := q1.1) (g' := q1.2) K.2.1 E (kS K) h2) rfl rfl rfl (oX9_takes h2) ⟨Nat.le_of_ble_eq_true rfl, Nat.le_of_ble_eq_true rfl⟩ (Nat.le_of_ble_eq_true rfl) dX9_needs_2 ⟨Nat.zero_le _, Nat.zero_le _⟩ rfl ?_
  refine V.if_ne (pc := 5) (t := 20) C dX9_needs_5 (by decide) (fun c3 => ?_) (fun c3 => ?_)
  · replace hf := ite_f c3 hf
    refine V.iconst (pc := 20) C dX9_needs_20 (v := (1 : Int32)) (by decide) ?_
    refine V.goto (pc := 21) (t := 25) C dX9_needs_21 (by decide) ?_
    obtain ⟨f1, f2⟩ := fin2 hf
    clear hf
    subst f1
    subst f2
    exact V.zret (pc := 25) C rfl rfl dX9_needs_25
  replace hf := ite_t c3 hf
  refine V.aload_n (pc := 8) C dX9_needs_8 0 rfl ?_
  refine V.iconst (pc := 9) C dX9_needs_9 (v := (1 : Int32)) (by decide) ?_
  refine V.aload_n (pc := 10) C dX9_needs_10 0 rfl ?_
  replace hf := ob_some hf
  obtain ⟨x4, h5, hf⟩ := hf
  refine V.getI (pc := 11) C kX9 (k := 2) (by decide) wd_1052 h5 dX9_needs_11 ?_
  replace hf := ob_some hf
  obtain ⟨q6, h7, hf⟩ := hf
  refine V.callV0i (pc := 14) C hyX9_fails wd_1208 (mX9_fails (r := q6.1) (g' := q6.2) K.2.1 E (kS K) h7) rfl rfl rfl (oX9_fails h7) ⟨Nat.le_of_ble_eq_true rfl, Nat.le_of_ble_eq_true rfl⟩ (Nat.le_of_ble_eq_true rfl) dX9_needs_14 ⟨Nat.zero_le _, Nat.zero_le _⟩ rfl ?_
  refine V.if_eq (pc := 17) (t := 24) C dX9_needs_17 (by decide) (fun c8 => ?_) (fun c8 => ?_)
  · replace hf := ite_t c8 hf
    refine V.iconst (pc := 24) C dX9_needs_24 (v := (0 : Int32)) (by decide) ?_
    obtain ⟨f1, f2⟩ := fin2 hf
    clear hf
    subst f1
    subst f2
    exact V.zret (pc := 25) C rfl rfl dX9_needs_25
  replace hf := ite_f c8 hf
  refine V.iconst (pc := 20) C dX9_needs_20 (v := (1 : Int32)) (by decide) ?_
  refine V.goto (pc := 21) (t := 25) C dX9_needs_21 (by decide) ?_
  obtain ⟨f1, f2⟩ := fin2 hf
  clear hf
  subst f1
  subst f2
  exact V.zret (pc := 25) C rfl rfl dX9_needs_25
