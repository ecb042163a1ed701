theorem dX9_escapeOf_0 : decode cX9_escapeOf 0 = .ok (.iconst 0, 1) := by decide +kernel
theorem dX9_escapeOf_1 : decode cX9_escapeOf 1 = .ok (.istore_n 3, 1) := by decide +kernel
theorem dX9_escapeOf_2 : decode cX9_escapeOf 2 = .ok (.iload_n 3, 1) := by decide +kernel
theorem dX9_escapeOf_3 : decode cX9_escapeOf 3 = .ok (.iconst 1, 1) := by decide +kernel
theorem dX9_escapeOf_4 : decode cX9_escapeOf 4 = .ok (.aload_n 0, 1) := by decide +kernel
theorem dX9_escapeOf_5 : decode cX9_escapeOf 5 = .ok (.getfield 180, 3) := by decide +kernel
theorem dX9_escapeOf_8 : decode cX9_escapeOf 8 = .ok (.ishl, 1) := by decide +kernel
theorem dX9_escapeOf_9 : decode cX9_escapeOf 9 = .ok (.if_icmp .ge 66, 3) := by decide +kernel
theorem dX9_escapeOf_12 : decode cX9_escapeOf 12 = .ok (.iconst 0, 1) := by decide +kernel
theorem dX9_escapeOf_13 : decode cX9_escapeOf 13 = .ok (.istore 4, 2) := by decide +kernel
theorem dX9_escapeOf_15 : decode cX9_escapeOf 15 = .ok (.iload 4, 2) := by decide +kernel
theorem dX9_escapeOf_17 : decode cX9_escapeOf 17 = .ok (.iconst 1, 1) := by decide +kernel
theorem dX9_escapeOf_18 : decode cX9_escapeOf 18 = .ok (.aload_n 0, 1) := by decide +kernel
theorem dX9_escapeOf_19 : decode cX9_escapeOf 19 = .ok (.iload_n 1, 1) := by decide +kernel
theorem dX9_escapeOf_20 : decode cX9_escapeOf 20 = .ok (.invokevirtual 246, 3) := by decide +kernel
theorem dX9_escapeOf_23 : decode cX9_escapeOf 23 = .ok (.ishl, 1) := by decide +kernel
theorem dX9_escapeOf_24 : decode cX9_escapeOf 24 = .ok (.if_icmp .ge 45, 3) := by decide +kernel
theorem dX9_escapeOf_27 : decode cX9_escapeOf 27 = .ok (.aload_n 0, 1) := by decide +kernel
theorem dX9_escapeOf_28 : decode cX9_escapeOf 28 = .ok (.iload_n 2, 1) := by decide +kernel
theorem dX9_escapeOf_29 : decode cX9_escapeOf 29 = .ok (.aload_n 0, 1) := by decide +kernel
theorem dX9_escapeOf_30 : decode cX9_escapeOf 30 = .ok (.getfield 240, 3) := by decide +kernel
theorem dX9_escapeOf_33 : decode cX9_escapeOf 33 = .ok (.aload_n 0, 1) := by decide +kernel
theorem dX9_escapeOf_34 : decode cX9_escapeOf 34 = .ok (.getfield 243, 3) := by decide +kernel
theorem dX9_escapeOf_37 : decode cX9_escapeOf 37 = .ok (.iload_n 3, 1) := by decide +kernel
theorem dX9_escapeOf_38 : decode cX9_escapeOf 38 = .ok (.invokevirtual 249, 3) := by decide +kernel
theorem dX9_escapeOf_41 : decode cX9_escapeOf 41 = .ok (.aload_n 0, 1) := by decide +kernel
theorem dX9_escapeOf_42 : decode cX9_escapeOf 42 = .ok (.iload_n 1, 1) := by decide +kernel
theorem dX9_escapeOf_43 : decode cX9_escapeOf 43 = .ok (.iload 4, 2) := by decide +kernel
theorem dX9_escapeOf_45 : decode cX9_escapeOf 45 = .ok (.invokevirtual 252, 3) := by decide +kernel
theorem dX9_escapeOf_48 : decode cX9_escapeOf 48 = .ok (.aload_n 0, 1) := by decide +kernel
theorem dX9_escapeOf_49 : decode cX9_escapeOf 49 = .ok (.getfield 222, 3) := by decide +kernel
theorem dX9_escapeOf_52 : decode cX9_escapeOf 52 = .ok (.ifCond .ne 11, 3) := by decide +kernel
theorem dX9_escapeOf_55 : decode cX9_escapeOf 55 = .ok (.bipush 8, 2) := by decide +kernel
theorem dX9_escapeOf_57 : decode cX9_escapeOf 57 = .ok (.iload_n 3, 1) := by decide +kernel
theorem dX9_escapeOf_58 : decode cX9_escapeOf 58 = .ok (.imul, 1) := by decide +kernel
theorem dX9_escapeOf_59 : decode cX9_escapeOf 59 = .ok (.iload 4, 2) := by decide +kernel
theorem dX9_escapeOf_61 : decode cX9_escapeOf 61 = .ok (.iadd, 1) := by decide +kernel
theorem dX9_escapeOf_62 : decode cX9_escapeOf 62 = .ok (.ireturn, 1) := by decide +kernel
theorem dX9_escapeOf_63 : decode cX9_escapeOf 63 = .ok (.iinc 4 1, 3) := by decide +kernel
theorem dX9_escapeOf_66 : decode cX9_escapeOf 66 = .ok (.goto (-51), 3) := by decide +kernel
theorem dX9_escapeOf_69 : decode cX9_escapeOf 69 = .ok (.iinc 3 1, 3) := by decide +kernel
theorem dX9_escapeOf_72 : decode cX9_escapeOf 72 = .ok (.goto (-70), 3) := by decide +kernel
theorem dX9_escapeOf_75 : decode cX9_escapeOf 75 = .ok (.iconst (-1), 1) := by decide +kernel
theorem dX9_escapeOf_76 : decode cX9_escapeOf 76 = .ok (.ireturn, 1) := by decide +kernel
def fX9_escapeOf_15 (k2 : PH → Nat → Int32 → Int32 → Int32 → Option (Int32 × PH)) : Nat → PH → Nat → Int32 → Int32 → Int32 → Int32 → Option (Int32 × PH)
  | 0, _, _, _, _, _, _ => none
  | n + 1, g, v0, v1, v2, v3, v4 =>
  (fX9_anys g v0 v1).bind fun q1 =>
  (if ((1 : Int32) <<< (q1.1 &&& 31)) ≤ v4 then (k2 q1.2 v0 v1 v2 (v3 + (1 : Int32))) else
  ((getI q1.2 v0 9 23).bind fun x4 =>
  ((getI q1.2 v0 9 24).bind fun x6 =>
  ((fX9_tries q1.2 v0 v2 x4 x6 v3).bind fun q8 =>
  ((fX9_goesThrough q8.2 v0 v1 v4).bind fun q10 =>
  ((getI q10.2 v0 9 20).bind fun x12 =>
  (if x12 = 0 then (some ((((8 : Int32) * v3) + v4), q10.2)) else
  (fX9_escapeOf_15 k2 n q10.2 v0 v1 v2 v3 (v4 + (1 : Int32))))))))))
set_option maxHeartbeats 4000000 in
set_option maxRecDepth 100000 in
theorem bX9_escapeOf_15 {K : HK} {E : HE} {r : Int32} {g' : PH} {k2 : PH → Nat → Int32 → Int32 → Int32 → Option (Int32 × PH)} (C : VC K E 5 cX9_escapeOf RX9 (some .int)) (hk2 : ∀ (g : PH) (v0 : Nat) (v1 : Int32) (v2 : Int32) (v3 : Int32), k2 g v0 v1 v2 v3 = some (r, g') → V K E (hRm 8 192 0 0) 5 (hZ K E (some (.int r)) g' 0 0) 0 0 (kS K) g 2 [(0, .ref v0), (1, .int v1), (2, .int v2), (3, .int v3)] []) : ∀ (n : Nat) (g : PH) (v0 : Nat) (v1 : Int32) (v2 : Int32) (v3 : Int32) (v4 : Int32), fX9_escapeOf_15 k2 n g v0 v1 v2 v3 v4 = some (r, g') → V K E (hRm 8 192 0 0) 5 (hZ K E (some (.int r)) g' 0 0) 0 0 (kS K) g 15 [(0, .ref v0), (1, .int v1), (2, .int v2), (3, .int v3), (4, .int v4)] [] := by
  intro n
  induction n with
  | zero =>
    intro g v0 v1 v2 v3 v4 hf
    rw [fX9_escapeOf_15] at hf
    cases hf
  | succ n ih =>
    intro g v0 v1 v2 v3 v4 hf
    rw [fX9_escapeOf_15] at hf
    refine V.iload (pc := 15) C dX9_escapeOf_15 4 rfl ?_
    refine V.iconst (pc := 17) C dX9_escapeOf_17 (v := (1 : Int32)) (by decide) ?_
    refine V.aload_n (pc := 18) C dX9_escapeOf_18 0 rfl ?_
    refine V.iload_n (pc := 19) C dX9_escapeOf_19 1 rfl ?_
    replace hf := ob_some hf
    obtain ⟨q1, h2, hf⟩ := hf
    refine V.callV0i (pc := 20) C hyX9_anys wd_1296 (mX9_anys (r := q1.1) (g' := q1.2) K.2.1 E (kS K) h2) rfl rfl rfl (oX9_anys h2) ⟨Nat.le_of_ble_eq_true rfl, Nat.le_of_ble_eq_true rfl⟩ (Nat.le_of_ble_eq_true rfl) dX9_escapeOf_20 ⟨Nat.zero_le _, Nat.zero_le _⟩ rfl ?_
    refine V.ishl (pc := 23) C dX9_escapeOf_23 ?_
    refine V.icmp_ge (pc := 24) (t := 69) C dX9_escapeOf_24 (by decide) (fun c3 => ?_) (fun c3 => ?_)
    · replace hf := ite_t c3 hf
      refine V.iinc (pc := 69) (v := (v3 + (1 : Int32))) (L' := [(3, .int (v3 + (1 : Int32))), (0, .ref v0), (1, .int v1), (2, .int v2), (4, .int v4)]) C dX9_escapeOf_69 3 rfl rfl (by decide) rfl ?_
      refine V.goto (pc := 72) (t := 2) C dX9_escapeOf_72 (by decide) ?_
      refine V.sub (L' := [(0, .ref v0), (1, .int v1), (2, .int v2), (3, .int (v3 + (1 : Int32)))]) [1, 2, 3, 0] rfl ?_
      exact hk2 _ _ _ _ _ hf
    replace hf := ite_f c3 hf
    refine V.aload_n (pc := 27) C dX9_escapeOf_27 0 rfl ?_
    refine V.iload_n (pc := 28) C dX9_escapeOf_28 2 rfl ?_
    refine V.aload_n (pc := 29) C dX9_escapeOf_29 0 rfl ?_
    replace hf := ob_some hf
    obtain ⟨x4, h5, hf⟩ := hf
    refine V.getI (pc := 30) C kX9 (k := 23) (by decide) wd_1073 h5 dX9_escapeOf_30 ?_
    refine V.aload_n (pc := 33) C dX9_escapeOf_33 0 rfl ?_
    replace hf := ob_some hf
    obtain ⟨x6, h7, hf⟩ := hf
    refine V.getI (pc := 34) C kX9 (k := 24) (by decide) wd_1074 h7 dX9_escapeOf_34 ?_
    refine V.iload_n (pc := 37) C dX9_escapeOf_37 3 rfl ?_
    replace hf := ob_some hf
    obtain ⟨q8, h9, hf⟩ := hf
    refine V.callV0v (pc := 38) C hyX9_tries wd_1325 (mX9_tries (r := q8.1) (g' := q8.2) K.2.1 E (kS K) h9) rfl rfl rfl (oX9_tries h9) ⟨Nat.le_of_ble_eq_true rfl, Nat.le_of_ble_eq_true rfl⟩ (Nat.le_of_ble_eq_true rfl) dX9_escapeOf_38 ⟨Nat.zero_le _, Nat.zero_le _⟩ rfl ?_
    refine V.aload_n (pc := 41) C dX9_escapeOf_41 0 rfl ?_
    refine V.iload_n (pc := 42) C dX9_escapeOf_42 1 rfl ?_
    refine V.iload (pc := 43) C dX9_escapeOf_43 4 rfl ?_
    replace hf := ob_some hf
    obtain ⟨q10, h11, hf⟩ := hf
    refine V.callV0v (pc := 45) C hyX9_goesThrough wd_1352 (mX9_goesThrough (r := q10.1) (g' := q10.2) K.2.1 E (kS K) h11) rfl rfl rfl (oX9_goesThrough h11) ⟨Nat.le_of_ble_eq_true rfl, Nat.le_of_ble_eq_true rfl⟩ (Nat.le_of_ble_eq_true rfl) dX9_escapeOf_45 ⟨Nat.zero_le _, Nat.zero_le _⟩ rfl ?_
    refine V.aload_n (pc := 48) C dX9_escapeOf_48 0 rfl ?_
    replace hf := ob_some hf
    obtain ⟨x12, h13, hf⟩ := hf
    refine V.getI (pc := 49) C kX9 (k := 20) (by decide) wd_1070 h13 dX9_escapeOf_49 ?_
    refine V.if_ne (pc := 52) (t := 63) C dX9_escapeOf_52 (by decide) (fun c14 => ?_) (fun c14 => ?_)
    · replace hf := ite_f c14 hf
      refine V.iinc (pc := 63) (v := (v4 + (1 : Int32))) (L' := [(4, .int (v4 + (1 : Int32))), (0, .ref v0), (1, .int v1), (2, .int v2), (3, .int v3)]) C dX9_escapeOf_63 4 rfl rfl (by decide) rfl ?_
      refine V.goto (pc := 66) (t := 15) C dX9_escapeOf_66 (by decide) ?_
      refine V.sub (L' := [(0, .ref v0), (1, .int v1), (2, .int v2), (3, .int v3), (4, .int (v4 + (1 : Int32)))]) [1, 2, 3, 4, 0] rfl ?_
      exact ih _ _ _ _ _ _ hf
    replace hf := ite_t c14 hf
    refine V.bipush (pc := 55) C dX9_escapeOf_55 (v := (8 : Int32)) (by decide) ?_
    refine V.iload_n (pc := 57) C dX9_escapeOf_57 3 rfl ?_
    refine V.imul (pc := 58) C dX9_escapeOf_58 ?_
    refine V.iload (pc := 59) C dX9_escapeOf_59 4 rfl ?_
    refine V.iadd (pc := 61) C dX9_escapeOf_61 ?_
    obtain ⟨f1, f2⟩ := fin2 hf
    clear hf
    subst f1
    subst f2
    exact V.iret (pc := 62) C rfl dX9_escapeOf_62
def fX9_escapeOf_2  : Nat → PH → Nat → Int32 → Int32 → Int32 → Option (Int32 × PH)
  | 0, _, _, _, _, _ => none
  | n + 1, g, v0, v1, v2, v3 =>
  (getI g v0 9 15).bind fun x1 =>
  (if ((1 : Int32) <<< (x1 &&& 31)) ≤ v3 then (some ((-1 : Int32), g)) else
  (fX9_escapeOf_15 (fX9_escapeOf_2 n) FUEL g v0 v1 v2 v3 (0 : Int32)))
set_option maxHeartbeats 4000000 in
set_option maxRecDepth 100000 in
theorem bX9_escapeOf_2 {K : HK} {E : HE} {r : Int32} {g' : PH}  (C : VC K E 5 cX9_escapeOf RX9 (some .int))  : ∀ (n : Nat) (g : PH) (v0 : Nat) (v1 : Int32) (v2 : Int32) (v3 : Int32), fX9_escapeOf_2  n g v0 v1 v2 v3 = some (r, g') → V K E (hRm 8 192 0 0) 5 (hZ K E (some (.int r)) g' 0 0) 0 0 (kS K) g 2 [(0, .ref v0), (1, .int v1), (2, .int v2), (3, .int v3)] [] := by
  intro n
  induction n with
  | zero =>
    intro g v0 v1 v2 v3 hf
    rw [fX9_escapeOf_2] at hf
    cases hf
  | succ n ih =>
    intro g v0 v1 v2 v3 hf
    rw [fX9_escapeOf_2] at hf
    refine V.iload_n (pc := 2) C dX9_escapeOf_2 3 rfl ?_
    refine V.iconst (pc := 3) C dX9_escapeOf_3 (v := (1 : Int32)) (by decide) ?_
    refine V.aload_n (pc := 4) C dX9_escapeOf_4 0 rfl ?_
    replace hf := ob_some hf
    obtain ⟨x1, h2, hf⟩ := hf
    refine V.getI (pc := 5) C kX9 (k := 15) (by decide) wd_1065 h2 dX9_escapeOf_5 ?_
    refine V.ishl (pc := 8) C dX9_escapeOf_8 ?_
    refine V.icmp_ge (pc := 9) (t := 75) C dX9_escapeOf_9 (by decide) (fun c3 => ?_) (fun c3 => ?_)
    · replace hf := ite_t c3 hf
      refine V.iconst (pc := 75) C dX9_escapeOf_75 (v := (-1 : Int32)) (by decide) ?_
      obtain ⟨f1, f2⟩ := fin2 hf
      clear hf
      subst f1
      subst f2
      exact V.iret (pc := 76) C rfl dX9_escapeOf_76
    replace hf := ite_f c3 hf
    refine V.iconst (pc := 12) C dX9_escapeOf_12 (v := (0 : Int32)) (by decide) ?_
    refine V.istore (pc := 13) (L' := [(4, .int (0 : Int32)), (0, .ref v0), (1, .int v1), (2, .int v2), (3, .int v3)]) C dX9_escapeOf_13 (by decide) rfl ?_
    refine V.sub (L' := [(0, .ref v0), (1, .int v1), (2, .int v2), (3, .int v3), (4, .int (0 : Int32))]) [1, 2, 3, 4, 0] rfl ?_
    exact bX9_escapeOf_15 C ih _ _ _ _ _ _ _ hf
def fX9_escapeOf (g : PH) (a0 : Nat) (a1 : Int32) (a2 : Int32) : Option (Int32 × PH) :=
  okb (isO g a0 9) (fX9_escapeOf_2 FUEL g a0 a1 a2 (0 : Int32))
theorem oX9_escapeOf {g : PH} {a0 : Nat} {a1 : Int32} {a2 : Int32} {q : (Int32 × PH)} (h : fX9_escapeOf g a0 a1 a2 = some q) : isO g a0 9 = true := by unfold fX9_escapeOf at h; exact (okb_some h).1
theorem hyX9_escapeOf : hMet yX9_escapeOf RX9 cX9_escapeOf 5 (some .int) 2 := ⟨wd_1324, wd_1323, ws_76, wd_7, rfl, by decide +kernel, by decide +kernel, by decide +kernel⟩
set_option maxHeartbeats 4000000 in
set_option maxRecDepth 100000 in
theorem mX9_escapeOf (l : Launch) (E : HE) (sz : Nat) {g g' : PH} {a0 : Nat} {a1 : Int32} {a2 : Int32} {r : Int32} (hf : fX9_escapeOf g a0 a1 a2 = some (r, g')) : hM l E yX9_escapeOf cX9_escapeOf 5 (some .int) 8 192 0 0 sz g [.ref a0, .int a1, .int a2] (some (.int r)) g' := by
  refine hM.of (by decide) (Nat.le_of_ble_eq_true rfl) (fun K hl C hin hsz => ?_)
  subst hl
  subst hsz
  have C : VC K E 5 cX9_escapeOf RX9 (some .int) := C
  unfold fX9_escapeOf at hf
  replace hf := okb_some hf
  obtain ⟨ho, hf⟩ := hf
  refine V.start (L' := [(0, .ref a0), (1, .int a1), (2, .int a2)]) rfl ?_
  refine V.iconst (pc := 0) C dX9_escapeOf_0 (v := (0 : Int32)) (by decide) ?_
  refine V.istore_n (pc := 1) (L' := [(3, .int (0 : Int32)), (0, .ref a0), (1, .int a1), (2, .int a2)]) C dX9_escapeOf_1 (by decide) rfl ?_
  refine V.sub (L' := [(0, .ref a0), (1, .int a1), (2, .int a2), (3, .int (0 : Int32))]) [1, 2, 3, 0] rfl ?_
  exact bX9_escapeOf_2 C  _ _ _ _ _ _ hf
theorem dX9_ofKind_0 : decode cX9_ofKind 0 = .ok (.aload_n 0, 1) := by decide +kernel
theorem dX9_ofKind_1 : decode cX9_ofKind 1 = .ok (.iload_n 1, 1) := by decide +kernel
theorem dX9_ofKind_2 : decode cX9_ofKind 2 = .ok (.invokevirtual 255, 3) := by decide +kernel
theorem dX9_ofKind_5 : decode cX9_ofKind 5 = .ok (.ifCond .eq 15, 3) := by decide +kernel
theorem dX9_ofKind_8 : decode cX9_ofKind 8 = .ok (.iload_n 2, 1) := by decide +kernel
theorem dX9_ofKind_9 : decode cX9_ofKind 9 = .ok (.i2l, 1) := by decide +kernel
theorem dX9_ofKind_10 : decode cX9_ofKind 10 = .ok (.lconst 0, 1) := by decide +kernel
theorem dX9_ofKind_11 : decode cX9_ofKind 11 = .ok (.ldc2_w 258, 3) := by decide +kernel
theorem dX9_ofKind_14 : decode cX9_ofKind 14 = .ok (.invokestatic 86, 3) := by decide +kernel
theorem dX9_ofKind_17 : decode cX9_ofKind 17 = .ok (.ifCond .ne 5, 3) := by decide +kernel
theorem dX9_ofKind_20 : decode cX9_ofKind 20 = .ok (.iconst (-1), 1) := by decide +kernel
theorem dX9_ofKind_21 : decode cX9_ofKind 21 = .ok (.ireturn, 1) := by decide +kernel
theorem dX9_ofKind_22 : decode cX9_ofKind 22 = .ok (.iload_n 2, 1) := by decide +kernel
theorem dX9_ofKind_23 : decode cX9_ofKind 23 = .ok (.tableswitch 52 0 2 #[25, 32, 46], 25) := by decide +kernel
theorem dX9_ofKind_48 : decode cX9_ofKind 48 = .ok (.aload_n 0, 1) := by decide +kernel
theorem dX9_ofKind_49 : decode cX9_ofKind 49 = .ok (.getfield 17, 3) := by decide +kernel
theorem dX9_ofKind_52 : decode cX9_ofKind 52 = .ok (.iload_n 1, 1) := by decide +kernel
theorem dX9_ofKind_53 : decode cX9_ofKind 53 = .ok (.iaload, 1) := by decide +kernel
theorem dX9_ofKind_54 : decode cX9_ofKind 54 = .ok (.ireturn, 1) := by decide +kernel
theorem dX9_ofKind_55 : decode cX9_ofKind 55 = .ok (.aload_n 0, 1) := by decide +kernel
theorem dX9_ofKind_56 : decode cX9_ofKind 56 = .ok (.iload_n 1, 1) := by decide +kernel
theorem dX9_ofKind_57 : decode cX9_ofKind 57 = .ok (.invokevirtual 237, 3) := by decide +kernel
theorem dX9_ofKind_60 : decode cX9_ofKind 60 = .ok (.ifCond .eq 7, 3) := by decide +kernel
theorem dX9_ofKind_63 : decode cX9_ofKind 63 = .ok (.iconst 1, 1) := by decide +kernel
theorem dX9_ofKind_64 : decode cX9_ofKind 64 = .ok (.goto 4, 3) := by decide +kernel
theorem dX9_ofKind_67 : decode cX9_ofKind 67 = .ok (.iconst 0, 1) := by decide +kernel
theorem dX9_ofKind_68 : decode cX9_ofKind 68 = .ok (.ireturn, 1) := by decide +kernel
theorem dX9_ofKind_69 : decode cX9_ofKind 69 = .ok (.aload_n 0, 1) := by decide +kernel
theorem dX9_ofKind_70 : decode cX9_ofKind 70 = .ok (.iload_n 1, 1) := by decide +kernel
theorem dX9_ofKind_71 : decode cX9_ofKind 71 = .ok (.invokevirtual 260, 3) := by decide +kernel
theorem dX9_ofKind_74 : decode cX9_ofKind 74 = .ok (.ireturn, 1) := by decide +kernel
theorem dX9_ofKind_75 : decode cX9_ofKind 75 = .ok (.aload_n 0, 1) := by decide +kernel
theorem dX9_ofKind_76 : decode cX9_ofKind 76 = .ok (.iload_n 1, 1) := by decide +kernel
theorem dX9_ofKind_77 : decode cX9_ofKind 77 = .ok (.invokevirtual 237, 3) := by decide +kernel
theorem dX9_ofKind_80 : decode cX9_ofKind 80 = .ok (.ifCond .eq 14, 3) := by decide +kernel
theorem dX9_ofKind_83 : decode cX9_ofKind 83 = .ok (.iconst 2, 1) := by decide +kernel
theorem dX9_ofKind_84 : decode cX9_ofKind 84 = .ok (.aload_n 0, 1) := by decide +kernel
theorem dX9_ofKind_85 : decode cX9_ofKind 85 = .ok (.getfield 180, 3) := by decide +kernel
theorem dX9_ofKind_88 : decode cX9_ofKind 88 = .ok (.iconst 1, 1) := by decide +kernel
theorem dX9_ofKind_89 : decode cX9_ofKind 89 = .ok (.isub, 1) := by decide +kernel
theorem dX9_ofKind_90 : decode cX9_ofKind 90 = .ok (.imul, 1) := by decide +kernel
theorem dX9_ofKind_91 : decode cX9_ofKind 91 = .ok (.goto 7, 3) := by decide +kernel
theorem dX9_ofKind_94 : decode cX9_ofKind 94 = .ok (.aload_n 0, 1) := by decide +kernel
theorem dX9_ofKind_95 : decode cX9_ofKind 95 = .ok (.getfield 180, 3) := by decide +kernel
theorem dX9_ofKind_98 : decode cX9_ofKind 98 = .ok (.ireturn, 1) := by decide +kernel
def fX9_ofKind (g : PH) (a0 : Nat) (a1 : Int32) (a2 : Int32) : Option (Int32 × PH) :=
  okb (isO g a0 9) ((fX9_isKind g a0 a1).bind fun q1 =>
  (if q1.1 = 0 then (some ((-1 : Int32), q1.2)) else
  ((fX9_isIn q1.2 a2.toInt64 (0 : Int64) (3 : Int64)).bind fun q4 =>
  (if q4.1 = 0 then (some ((-1 : Int32), q4.2)) else
  (if a2 = 0 then ((getR q4.2 a0 9 6).bind fun p8 =>
  ((ldI q4.2 p8 0 a1).bind fun x10 =>
  (some (x10, q4.2)))) else
  (if a2 = 1 then ((fX9_isPair q4.2 a0 a1).bind fun q13 =>
  (if q13.1 = 0 then (some ((0 : Int32), q13.2)) else
  (some ((1 : Int32), q13.2)))) else
  (if a2 = 2 then ((fX9_placements q4.2 a0 a1).bind fun q17 =>
  (some (q17.1, q17.2))) else
  ((fX9_isPair q4.2 a0 a1).bind fun q19 =>
  (if q19.1 = 0 then ((getI q19.2 a0 9 15).bind fun x22 =>
  (some (x22, q19.2))) else
  ((getI q19.2 a0 9 15).bind fun x24 =>
  (some (((2 : Int32) * (x24 - (1 : Int32))), q19.2))))))))))))
theorem oX9_ofKind {g : PH} {a0 : Nat} {a1 : Int32} {a2 : Int32} {q : (Int32 × PH)} (h : fX9_ofKind g a0 a1 a2 = some q) : isO g a0 9 = true := by unfold fX9_ofKind at h; exact (okb_some h).1
theorem hyX9_ofKind : hMet yX9_ofKind RX9 cX9_ofKind 3 (some .int) 2 := ⟨wd_1269, wd_1267, wd_1268, wd_7, rfl, by decide +kernel, by decide +kernel, by decide +kernel⟩
set_option maxHeartbeats 4000000 in
set_option maxRecDepth 100000 in
theorem mX9_ofKind (l : Launch) (E : HE) (sz : Nat) {g g' : PH} {a0 : Nat} {a1 : Int32} {a2 : Int32} {r : Int32} (hf : fX9_ofKind g a0 a1 a2 = some (r, g')) : hM l E yX9_ofKind cX9_ofKind 3 (some .int) 3 67 0 0 sz g [.ref a0, .int a1, .int a2] (some (.int r)) g' := by
  refine hM.of (by decide) (Nat.le_of_ble_eq_true rfl) (fun K hl C hin hsz => ?_)
  subst hl
  subst hsz
  have C : VC K E 3 cX9_ofKind RX9 (some .int) := C
  unfold fX9_ofKind at hf
  replace hf := okb_some hf
  obtain ⟨ho, hf⟩ := hf
  refine V.start (L' := [(0, .ref a0), (1, .int a1), (2, .int a2)]) rfl ?_
  refine V.aload_n (pc := 0) C dX9_ofKind_0 0 rfl ?_
  refine V.iload_n (pc := 1) C dX9_ofKind_1 1 rfl ?_
  replace hf := ob_some hf
  obtain ⟨q1, h2, hf⟩ := hf
  refine V.callV0i (pc := 2) C hyX9_isKind wd_1270 (mX9_isKind (r := q1.1) (g' := q1.2) K.2.1 E (kS K) h2) rfl rfl rfl (oX9_isKind h2) ⟨Nat.le_of_ble_eq_true rfl, Nat.le_of_ble_eq_true rfl⟩ (Nat.le_of_ble_eq_true rfl) dX9_ofKind_2 ⟨Nat.zero_le _, Nat.zero_le _⟩ rfl ?_
  refine V.if_eq (pc := 5) (t := 20) C dX9_ofKind_5 (by decide) (fun c3 => ?_) (fun c3 => ?_)
  · replace hf := ite_t c3 hf
    refine V.iconst (pc := 20) C dX9_ofKind_20 (v := (-1 : Int32)) (by decide) ?_
    obtain ⟨f1, f2⟩ := fin2 hf
    clear hf
    subst f1
    subst f2
    exact V.iret (pc := 21) C rfl dX9_ofKind_21
  replace hf := ite_f c3 hf
  refine V.iload_n (pc := 8) C dX9_ofKind_8 2 rfl ?_
  refine V.i2l (pc := 9) C dX9_ofKind_9 ?_
  refine V.lconst (pc := 10) C dX9_ofKind_10 (v := (0 : Int64)) (by decide) ?_
  refine V.ldc2 (pc := 11) C wd_1274 dX9_ofKind_11 ?_
  replace hf := ob_some hf
  obtain ⟨q4, h5, hf⟩ := hf
  refine V.callS0i (pc := 14) C hyX9_isIn wd_1182 (mX9_isIn (r := q4.1) (g' := q4.2) K.2.1 E (kS K) h5) rfl ⟨Nat.le_of_ble_eq_true rfl, Nat.le_of_ble_eq_true rfl⟩ (Nat.le_of_ble_eq_true rfl) dX9_ofKind_14 ⟨Nat.zero_le _, Nat.zero_le _⟩ rfl ?_
  refine V.if_ne (pc := 17) (t := 22) C dX9_ofKind_17 (by decide) (fun c6 => ?_) (fun c6 => ?_)
  · replace hf := ite_f c6 hf
    refine V.iload_n (pc := 22) C dX9_ofKind_22 2 rfl ?_
    by_cases c7 : a2 = 0
    · replace hf := ite_t c7 hf
      refine V.tsIn (pc := 23) (k := 0) (t := 48) C dX9_ofKind_23 c7 (by decide) (by decide) rfl (by decide) ?_
      refine V.aload_n (pc := 48) C dX9_ofKind_48 0 rfl ?_
      replace hf := ob_some hf
      obtain ⟨p8, h9, hf⟩ := hf
      refine V.getR (pc := 49) C kX9 (k := 6) (by decide) wd_1056 h9 dX9_ofKind_49 ?_
      refine V.iload_n (pc := 52) C dX9_ofKind_52 1 rfl ?_
      replace hf := ob_some hf
      obtain ⟨x10, h11, hf⟩ := hf
      refine V.iald (pc := 53) C h11 dX9_ofKind_53 ?_
      obtain ⟨f1, f2⟩ := fin2 hf
      clear hf
      subst f1
      subst f2
      exact V.iret (pc := 54) C rfl dX9_ofKind_54
    replace hf := ite_f c7 hf
    by_cases c12 : a2 = 1
    · replace hf := ite_t c12 hf
      refine V.tsIn (pc := 23) (k := 1) (t := 55) C dX9_ofKind_23 c12 (by decide) (by decide) rfl (by decide) ?_
      refine V.aload_n (pc := 55) C dX9_ofKind_55 0 rfl ?_
      refine V.iload_n (pc := 56) C dX9_ofKind_56 1 rfl ?_
      replace hf := ob_some hf
      obtain ⟨q13, h14, hf⟩ := hf
      refine V.callV0i (pc := 57) C hyX9_isPair wd_1275 (mX9_isPair (r := q13.1) (g' := q13.2) K.2.1 E (kS K) h14) rfl rfl rfl (oX9_isPair h14) ⟨Nat.le_of_ble_eq_true rfl, Nat.le_of_ble_eq_true rfl⟩ (Nat.le_of_ble_eq_true rfl) dX9_ofKind_57 ⟨Nat.zero_le _, Nat.zero_le _⟩ rfl ?_
      refine V.if_eq (pc := 60) (t := 67) C dX9_ofKind_60 (by decide) (fun c15 => ?_) (fun c15 => ?_)
      · replace hf := ite_t c15 hf
        refine V.iconst (pc := 67) C dX9_ofKind_67 (v := (0 : Int32)) (by decide) ?_
        obtain ⟨f1, f2⟩ := fin2 hf
        clear hf
        subst f1
        subst f2
        exact V.iret (pc := 68) C rfl dX9_ofKind_68
      replace hf := ite_f c15 hf
      refine V.iconst (pc := 63) C dX9_ofKind_63 (v := (1 : Int32)) (by decide) ?_
      refine V.goto (pc := 64) (t := 68) C dX9_ofKind_64 (by decide) ?_
      obtain ⟨f1, f2⟩ := fin2 hf
      clear hf
      subst f1
      subst f2
      exact V.iret (pc := 68) C rfl dX9_ofKind_68
    replace hf := ite_f c12 hf
    by_cases c16 : a2 = 2
    · replace hf := ite_t c16 hf
      refine V.tsIn (pc := 23) (k := 2) (t := 69) C dX9_ofKind_23 c16 (by decide) (by decide) rfl (by decide) ?_
      refine V.aload_n (pc := 69) C dX9_ofKind_69 0 rfl ?_
      refine V.iload_n (pc := 70) C dX9_ofKind_70 1 rfl ?_
      replace hf := ob_some hf
      obtain ⟨q17, h18, hf⟩ := hf
      refine V.callV0i (pc := 71) C hyX9_placements wd_1279 (mX9_placements (r := q17.1) (g' := q17.2) K.2.1 E (kS K) h18) rfl rfl rfl (oX9_placements h18) ⟨Nat.le_of_ble_eq_true rfl, Nat.le_of_ble_eq_true rfl⟩ (Nat.le_of_ble_eq_true rfl) dX9_ofKind_71 ⟨Nat.zero_le _, Nat.zero_le _⟩ rfl ?_
      obtain ⟨f1, f2⟩ := fin2 hf
      clear hf
      subst f1
      subst f2
      exact V.iret (pc := 74) C rfl dX9_ofKind_74
    replace hf := ite_f c16 hf
    have c7 := lv_neT (a := 0) c7 (by decide)
    have c12 := lv_neT (a := 1) c12 (by decide)
    have c16 := lv_neT (a := 2) c16 (by decide)
    refine V.tsOut (pc := 23) (t := 75) C dX9_ofKind_23 (by omega) (by decide) ?_
    refine V.aload_n (pc := 75) C dX9_ofKind_75 0 rfl ?_
    refine V.iload_n (pc := 76) C dX9_ofKind_76 1 rfl ?_
    replace hf := ob_some hf
    obtain ⟨q19, h20, hf⟩ := hf
    refine V.callV0i (pc := 77) C hyX9_isPair wd_1275 (mX9_isPair (r := q19.1) (g' := q19.2) K.2.1 E (kS K) h20) rfl rfl rfl (oX9_isPair h20) ⟨Nat.le_of_ble_eq_true rfl, Nat.le_of_ble_eq_true rfl⟩ (Nat.le_of_ble_eq_true rfl) dX9_ofKind_77 ⟨Nat.zero_le _, Nat.zero_le _⟩ rfl ?_
    refine V.if_eq (pc := 80) (t := 94) C dX9_ofKind_80 (by decide) (fun c21 => ?_) (fun c21 => ?_)
    · replace hf := ite_t c21 hf
      refine V.aload_n (pc := 94) C dX9_ofKind_94 0 rfl ?_
      replace hf := ob_some hf
      obtain ⟨x22, h23, hf⟩ := hf
      refine V.getI (pc := 95) C kX9 (k := 15) (by decide) wd_1065 h23 dX9_ofKind_95 ?_
      obtain ⟨f1, f2⟩ := fin2 hf
      clear hf
      subst f1
      subst f2
      exact V.iret (pc := 98) C rfl dX9_ofKind_98
    replace hf := ite_f c21 hf
    refine V.iconst (pc := 83) C dX9_ofKind_83 (v := (2 : Int32)) (by decide) ?_
    refine V.aload_n (pc := 84) C dX9_ofKind_84 0 rfl ?_
    replace hf := ob_some hf
    obtain ⟨x24, h25, hf⟩ := hf
    refine V.getI (pc := 85) C kX9 (k := 15) (by decide) wd_1065 h25 dX9_ofKind_85 ?_
    refine V.iconst (pc := 88) C dX9_ofKind_88 (v := (1 : Int32)) (by decide) ?_
    refine V.isub (pc := 89) C dX9_ofKind_89 ?_
    refine V.imul (pc := 90) C dX9_ofKind_90 ?_
    refine V.goto (pc := 91) (t := 98) C dX9_ofKind_91 (by decide) ?_
    obtain ⟨f1, f2⟩ := fin2 hf
    clear hf
    subst f1
    subst f2
    exact V.iret (pc := 98) C rfl dX9_ofKind_98
  replace hf := ite_t c6 hf
  refine V.iconst (pc := 20) C dX9_ofKind_20 (v := (-1 : Int32)) (by decide) ?_
  obtain ⟨f1, f2⟩ := fin2 hf
  clear hf
  subst f1
  subst f2
  exact V.iret (pc := 21) C rfl dX9_ofKind_21
theorem dX9_ofMarch_0 : decode cX9_ofMarch 0 = .ok (.aload_n 0, 1) := by decide +kernel
theorem dX9_ofMarch_1 : decode cX9_ofMarch 1 = .ok (.iload_n 1, 1) := by decide +kernel
theorem dX9_ofMarch_2 : decode cX9_ofMarch 2 = .ok (.invokevirtual 263, 3) := by decide +kernel
theorem dX9_ofMarch_5 : decode cX9_ofMarch 5 = .ok (.ifCond .eq 15, 3) := by decide +kernel
theorem dX9_ofMarch_8 : decode cX9_ofMarch 8 = .ok (.iload_n 2, 1) := by decide +kernel
theorem dX9_ofMarch_9 : decode cX9_ofMarch 9 = .ok (.i2l, 1) := by decide +kernel
theorem dX9_ofMarch_10 : decode cX9_ofMarch 10 = .ok (.lconst 0, 1) := by decide +kernel
theorem dX9_ofMarch_11 : decode cX9_ofMarch 11 = .ok (.ldc2_w 266, 3) := by decide +kernel
theorem dX9_ofMarch_14 : decode cX9_ofMarch 14 = .ok (.invokestatic 86, 3) := by decide +kernel
theorem dX9_ofMarch_17 : decode cX9_ofMarch 17 = .ok (.ifCond .ne 5, 3) := by decide +kernel
theorem dX9_ofMarch_20 : decode cX9_ofMarch 20 = .ok (.iconst (-1), 1) := by decide +kernel
theorem dX9_ofMarch_21 : decode cX9_ofMarch 21 = .ok (.ireturn, 1) := by decide +kernel
theorem dX9_ofMarch_22 : decode cX9_ofMarch 22 = .ok (.iconst 0, 1) := by decide +kernel
theorem dX9_ofMarch_23 : decode cX9_ofMarch 23 = .ok (.istore_n 3, 1) := by decide +kernel
theorem dX9_ofMarch_24 : decode cX9_ofMarch 24 = .ok (.iconst 0, 1) := by decide +kernel
theorem dX9_ofMarch_25 : decode cX9_ofMarch 25 = .ok (.istore 4, 2) := by decide +kernel
theorem dX9_ofMarch_27 : decode cX9_ofMarch 27 = .ok (.iconst 0, 1) := by decide +kernel
theorem dX9_ofMarch_28 : decode cX9_ofMarch 28 = .ok (.istore 5, 2) := by decide +kernel
theorem dX9_ofMarch_30 : decode cX9_ofMarch 30 = .ok (.iload 5, 2) := by decide +kernel
theorem dX9_ofMarch_32 : decode cX9_ofMarch 32 = .ok (.aload_n 0, 1) := by decide +kernel
theorem dX9_ofMarch_33 : decode cX9_ofMarch 33 = .ok (.getfield 23, 3) := by decide +kernel
theorem dX9_ofMarch_36 : decode cX9_ofMarch 36 = .ok (.iload_n 1, 1) := by decide +kernel
theorem dX9_ofMarch_37 : decode cX9_ofMarch 37 = .ok (.iaload, 1) := by decide +kernel
theorem dX9_ofMarch_38 : decode cX9_ofMarch 38 = .ok (.if_icmp .ge 67, 3) := by decide +kernel
theorem dX9_ofMarch_41 : decode cX9_ofMarch 41 = .ok (.iload_n 3, 1) := by decide +kernel
theorem dX9_ofMarch_42 : decode cX9_ofMarch 42 = .ok (.aload_n 0, 1) := by decide +kernel
theorem dX9_ofMarch_43 : decode cX9_ofMarch 43 = .ok (.iload_n 1, 1) := by decide +kernel
theorem dX9_ofMarch_44 : decode cX9_ofMarch 44 = .ok (.iload 5, 2) := by decide +kernel
theorem dX9_ofMarch_46 : decode cX9_ofMarch 46 = .ok (.iconst 1, 1) := by decide +kernel
theorem dX9_ofMarch_47 : decode cX9_ofMarch 47 = .ok (.invokevirtual 177, 3) := by decide +kernel
theorem dX9_ofMarch_50 : decode cX9_ofMarch 50 = .ok (.iadd, 1) := by decide +kernel
theorem dX9_ofMarch_51 : decode cX9_ofMarch 51 = .ok (.istore_n 3, 1) := by decide +kernel
theorem dX9_ofMarch_52 : decode cX9_ofMarch 52 = .ok (.iconst 0, 1) := by decide +kernel
theorem dX9_ofMarch_53 : decode cX9_ofMarch 53 = .ok (.istore 6, 2) := by decide +kernel
theorem dX9_ofMarch_55 : decode cX9_ofMarch 55 = .ok (.iload 6, 2) := by decide +kernel
theorem dX9_ofMarch_57 : decode cX9_ofMarch 57 = .ok (.aload_n 0, 1) := by decide +kernel
theorem dX9_ofMarch_58 : decode cX9_ofMarch 58 = .ok (.iload_n 1, 1) := by decide +kernel
theorem dX9_ofMarch_59 : decode cX9_ofMarch 59 = .ok (.iload 5, 2) := by decide +kernel
theorem dX9_ofMarch_61 : decode cX9_ofMarch 61 = .ok (.iconst 1, 1) := by decide +kernel
theorem dX9_ofMarch_62 : decode cX9_ofMarch 62 = .ok (.invokevirtual 177, 3) := by decide +kernel
theorem dX9_ofMarch_65 : decode cX9_ofMarch 65 = .ok (.if_icmp .ge 34, 3) := by decide +kernel
theorem dX9_ofMarch_68 : decode cX9_ofMarch 68 = .ok (.iload 4, 2) := by decide +kernel
theorem dX9_ofMarch_70 : decode cX9_ofMarch 70 = .ok (.aload_n 0, 1) := by decide +kernel
theorem dX9_ofMarch_71 : decode cX9_ofMarch 71 = .ok (.iload_n 1, 1) := by decide +kernel
theorem dX9_ofMarch_72 : decode cX9_ofMarch 72 = .ok (.iload 5, 2) := by decide +kernel
theorem dX9_ofMarch_74 : decode cX9_ofMarch 74 = .ok (.iconst 2, 1) := by decide +kernel
theorem dX9_ofMarch_75 : decode cX9_ofMarch 75 = .ok (.iload 6, 2) := by decide +kernel
theorem dX9_ofMarch_77 : decode cX9_ofMarch 77 = .ok (.iadd, 1) := by decide +kernel
theorem dX9_ofMarch_78 : decode cX9_ofMarch 78 = .ok (.invokevirtual 177, 3) := by decide +kernel
theorem dX9_ofMarch_81 : decode cX9_ofMarch 81 = .ok (.iconst 2, 1) := by decide +kernel
theorem dX9_ofMarch_82 : decode cX9_ofMarch 82 = .ok (.if_icmp .ge 7, 3) := by decide +kernel
theorem dX9_ofMarch_85 : decode cX9_ofMarch 85 = .ok (.iconst 1, 1) := by decide +kernel
theorem dX9_ofMarch_86 : decode cX9_ofMarch 86 = .ok (.goto 4, 3) := by decide +kernel
theorem dX9_ofMarch_89 : decode cX9_ofMarch 89 = .ok (.iconst 0, 1) := by decide +kernel
theorem dX9_ofMarch_90 : decode cX9_ofMarch 90 = .ok (.iadd, 1) := by decide +kernel
theorem dX9_ofMarch_91 : decode cX9_ofMarch 91 = .ok (.istore 4, 2) := by decide +kernel
theorem dX9_ofMarch_93 : decode cX9_ofMarch 93 = .ok (.iinc 6 1, 3) := by decide +kernel
theorem dX9_ofMarch_96 : decode cX9_ofMarch 96 = .ok (.goto (-41), 3) := by decide +kernel
theorem dX9_ofMarch_99 : decode cX9_ofMarch 99 = .ok (.iinc 5 1, 3) := by decide +kernel
theorem dX9_ofMarch_102 : decode cX9_ofMarch 102 = .ok (.goto (-72), 3) := by decide +kernel
theorem dX9_ofMarch_105 : decode cX9_ofMarch 105 = .ok (.iload_n 2, 1) := by decide +kernel
theorem dX9_ofMarch_106 : decode cX9_ofMarch 106 = .ok (.ifCond .ne 12, 3) := by decide +kernel
theorem dX9_ofMarch_109 : decode cX9_ofMarch 109 = .ok (.aload_n 0, 1) := by decide +kernel
theorem dX9_ofMarch_110 : decode cX9_ofMarch 110 = .ok (.getfield 23, 3) := by decide +kernel
theorem dX9_ofMarch_113 : decode cX9_ofMarch 113 = .ok (.iload_n 1, 1) := by decide +kernel
theorem dX9_ofMarch_114 : decode cX9_ofMarch 114 = .ok (.iaload, 1) := by decide +kernel
theorem dX9_ofMarch_115 : decode cX9_ofMarch 115 = .ok (.goto 41, 3) := by decide +kernel
theorem dX9_ofMarch_118 : decode cX9_ofMarch 118 = .ok (.iload_n 2, 1) := by decide +kernel
theorem dX9_ofMarch_119 : decode cX9_ofMarch 119 = .ok (.iconst 1, 1) := by decide +kernel
theorem dX9_ofMarch_120 : decode cX9_ofMarch 120 = .ok (.if_icmp .ne 7, 3) := by decide +kernel
theorem dX9_ofMarch_123 : decode cX9_ofMarch 123 = .ok (.iload_n 3, 1) := by decide +kernel
theorem dX9_ofMarch_124 : decode cX9_ofMarch 124 = .ok (.goto 32, 3) := by decide +kernel
theorem dX9_ofMarch_127 : decode cX9_ofMarch 127 = .ok (.iload_n 2, 1) := by decide +kernel
theorem dX9_ofMarch_128 : decode cX9_ofMarch 128 = .ok (.iconst 2, 1) := by decide +kernel
theorem dX9_ofMarch_129 : decode cX9_ofMarch 129 = .ok (.if_icmp .ne 8, 3) := by decide +kernel
theorem dX9_ofMarch_132 : decode cX9_ofMarch 132 = .ok (.iload 4, 2) := by decide +kernel
theorem dX9_ofMarch_134 : decode cX9_ofMarch 134 = .ok (.goto 22, 3) := by decide +kernel
theorem dX9_ofMarch_137 : decode cX9_ofMarch 137 = .ok (.iload_n 2, 1) := by decide +kernel
theorem dX9_ofMarch_138 : decode cX9_ofMarch 138 = .ok (.iconst 3, 1) := by decide +kernel
theorem dX9_ofMarch_139 : decode cX9_ofMarch 139 = .ok (.if_icmp .ne 11, 3) := by decide +kernel
theorem dX9_ofMarch_142 : decode cX9_ofMarch 142 = .ok (.aload_n 0, 1) := by decide +kernel
theorem dX9_ofMarch_143 : decode cX9_ofMarch 143 = .ok (.iload_n 1, 1) := by decide +kernel
theorem dX9_ofMarch_144 : decode cX9_ofMarch 144 = .ok (.invokevirtual 246, 3) := by decide +kernel
theorem dX9_ofMarch_147 : decode cX9_ofMarch 147 = .ok (.goto 9, 3) := by decide +kernel
theorem dX9_ofMarch_150 : decode cX9_ofMarch 150 = .ok (.aload_n 0, 1) := by decide +kernel
theorem dX9_ofMarch_151 : decode cX9_ofMarch 151 = .ok (.getfield 26, 3) := by decide +kernel
theorem dX9_ofMarch_154 : decode cX9_ofMarch 154 = .ok (.iload_n 1, 1) := by decide +kernel
theorem dX9_ofMarch_155 : decode cX9_ofMarch 155 = .ok (.iaload, 1) := by decide +kernel
theorem dX9_ofMarch_156 : decode cX9_ofMarch 156 = .ok (.ireturn, 1) := by decide +kernel
def fX9_ofMarch_90 (k30 : PH → Nat → Int32 → Int32 → Int32 → Int32 → Int32 → Option (Int32 × PH)) (k55 : PH → Nat → Int32 → Int32 → Int32 → Int32 → Int32 → Int32 → Option (Int32 × PH)) (g : PH) (v0 : Nat) (v1 : Int32) (v2 : Int32) (v3 : Int32) (v5 : Int32) (v6 : Int32) (s0 : Int32) (s1 : Int32) : Option (Int32 × PH) :=
  k55 g v0 v1 v2 v3 (s1 + s0) v5 (v6 + (1 : Int32))
set_option maxHeartbeats 4000000 in
set_option maxRecDepth 100000 in
theorem bX9_ofMarch_90 {K : HK} {E : HE} {r : Int32} {g' : PH} {k30 : PH → Nat → Int32 → Int32 → Int32 → Int32 → Int32 → Option (Int32 × PH)} {k55 : PH → Nat → Int32 → Int32 → Int32 → Int32 → Int32 → Int32 → Option (Int32 × PH)} (C : VC K E 7 cX9_ofMarch RX9 (some .int)) (hk30 : ∀ (g : PH) (v0 : Nat) (v1 : Int32) (v2 : Int32) (v3 : Int32) (v4 : Int32) (v5 : Int32), k30 g v0 v1 v2 v3 v4 v5 = some (r, g') → V K E (hRm 2 46 0 0) 7 (hZ K E (some (.int r)) g' 0 0) 0 0 (kS K) g 30 [(0, .ref v0), (1, .int v1), (2, .int v2), (3, .int v3), (4, .int v4), (5, .int v5)] []) (hk55 : ∀ (g : PH) (v0 : Nat) (v1 : Int32) (v2 : Int32) (v3 : Int32) (v4 : Int32) (v5 : Int32) (v6 : Int32), k55 g v0 v1 v2 v3 v4 v5 v6 = some (r, g') → V K E (hRm 2 46 0 0) 7 (hZ K E (some (.int r)) g' 0 0) 0 0 (kS K) g 55 [(0, .ref v0), (1, .int v1), (2, .int v2), (3, .int v3), (4, .int v4), (5, .int v5), (6, .int v6)] []) {g : PH} {v0 : Nat} {v1 : Int32} {v2 : Int32} {v3 : Int32} {v5 : Int32} {v6 : Int32} {s0 : Int32} {s1 : Int32} (hf : fX9_ofMarch_90 k30 k55 g v0 v1 v2 v3 v5 v6 s0 s1 = some (r, g')) : V K E (hRm 2 46 0 0) 7 (hZ K E (some (.int r)) g' 0 0) 0 0 (kS K) g 90 [(0, .ref v0), (1, .int v1), (2, .int v2), (3, .int v3), (5, .int v5), (6, .int v6)] [.int s0, .int s1] := by
  unfold fX9_ofMarch_90 at hf
  refine V.iadd (pc := 90) C dX9_ofMarch_90 ?_
  refine V.istore (pc := 91) (L' := [(4, .int (s1 + s0)), (0, .ref v0), (1, .int v1), (2, .int v2), (3, .int v3), (5, .int v5), (6, .int v6)]) C dX9_ofMarch_91 (by decide) rfl ?_
  refine V.iinc (pc := 93) (v := (v6 + (1 : Int32))) (L' := [(6, .int (v6 + (1 : Int32))), (4, .int (s1 + s0)), (0, .ref v0), (1, .int v1), (2, .int v2), (3, .int v3), (5, .int v5)]) C dX9_ofMarch_93 6 rfl rfl (by decide) rfl ?_
  refine V.goto (pc := 96) (t := 55) C dX9_ofMarch_96 (by decide) ?_
  refine V.sub (L' := [(0, .ref v0), (1, .int v1), (2, .int v2), (3, .int v3), (4, .int (s1 + s0)), (5, .int v5), (6, .int (v6 + (1 : Int32)))]) [2, 3, 4, 5, 1, 6, 0] rfl ?_
  exact hk55 _ _ _ _ _ _ _ _ hf
def fX9_ofMarch_55 (k30 : PH → Nat → Int32 → Int32 → Int32 → Int32 → Int32 → Option (Int32 × PH)) : Nat → PH → Nat → Int32 → Int32 → Int32 → Int32 → Int32 → Int32 → Option (Int32 × PH)
  | 0, _, _, _, _, _, _, _, _ => none
  | n + 1, g, v0, v1, v2, v3, v4, v5, v6 =>
  (fX9_elementAt g v0 v1 v5 (1 : Int32)).bind fun q1 =>
  (if q1.1 ≤ v6 then (k30 q1.2 v0 v1 v2 v3 v4 (v5 + (1 : Int32))) else
  ((fX9_elementAt q1.2 v0 v1 v5 ((2 : Int32) + v6)).bind fun q4 =>
  (if (2 : Int32) ≤ q4.1 then (fX9_ofMarch_90 (k30) (fX9_ofMarch_55 k30 n) q4.2 v0 v1 v2 v3 v5 v6 (0 : Int32) v4) else
  (fX9_ofMarch_90 (k30) (fX9_ofMarch_55 k30 n) q4.2 v0 v1 v2 v3 v5 v6 (1 : Int32) v4))))
set_option maxHeartbeats 4000000 in
set_option maxRecDepth 100000 in
theorem bX9_ofMarch_55 {K : HK} {E : HE} {r : Int32} {g' : PH} {k30 : PH → Nat → Int32 → Int32 → Int32 → Int32 → Int32 → Option (Int32 × PH)} (C : VC K E 7 cX9_ofMarch RX9 (some .int)) (hk30 : ∀ (g : PH) (v0 : Nat) (v1 : Int32) (v2 : Int32) (v3 : Int32) (v4 : Int32) (v5 : Int32), k30 g v0 v1 v2 v3 v4 v5 = some (r, g') → V K E (hRm 2 46 0 0) 7 (hZ K E (some (.int r)) g' 0 0) 0 0 (kS K) g 30 [(0, .ref v0), (1, .int v1), (2, .int v2), (3, .int v3), (4, .int v4), (5, .int v5)] []) : ∀ (n : Nat) (g : PH) (v0 : Nat) (v1 : Int32) (v2 : Int32) (v3 : Int32) (v4 : Int32) (v5 : Int32) (v6 : Int32), fX9_ofMarch_55 k30 n g v0 v1 v2 v3 v4 v5 v6 = some (r, g') → V K E (hRm 2 46 0 0) 7 (hZ K E (some (.int r)) g' 0 0) 0 0 (kS K) g 55 [(0, .ref v0), (1, .int v1), (2, .int v2), (3, .int v3), (4, .int v4), (5, .int v5), (6, .int v6)] [] := by
  intro n
  induction n with
  | zero =>
    intro g v0 v1 v2 v3 v4 v5 v6 hf
    rw [fX9_ofMarch_55] at hf
    cases hf
  | succ n ih =>
    intro g v0 v1 v2 v3 v4 v5 v6 hf
    rw [fX9_ofMarch_55] at hf
    refine V.iload (pc := 55) C dX9_ofMarch_55 6 rfl ?_
    refine V.aload_n (pc := 57) C dX9_ofMarch_57 0 rfl ?_
    refine V.iload_n (pc := 58) C dX9_ofMarch_58 1 rfl ?_
    refine V.iload (pc := 59) C dX9_ofMarch_59 5 rfl ?_
    refine V.iconst (pc := 61) C dX9_ofMarch_61 (v := (1 : Int32)) (by decide) ?_
    replace hf := ob_some hf
    obtain ⟨q1, h2, hf⟩ := hf
    refine V.callV0i (pc := 62) C hyX9_elementAt wd_1292 (mX9_elementAt (r := q1.1) (g' := q1.2) K.2.1 E (kS K) h2) rfl rfl rfl (oX9_elementAt h2) ⟨Nat.le_of_ble_eq_true rfl, Nat.le_of_ble_eq_true rfl⟩ (Nat.le_of_ble_eq_true rfl) dX9_ofMarch_62 ⟨Nat.zero_le _, Nat.zero_le _⟩ rfl ?_
    refine V.icmp_ge (pc := 65) (t := 99) C dX9_ofMarch_65 (by decide) (fun c3 => ?_) (fun c3 => ?_)
    · replace hf := ite_t c3 hf
      refine V.iinc (pc := 99) (v := (v5 + (1 : Int32))) (L' := [(5, .int (v5 + (1 : Int32))), (0, .ref v0), (1, .int v1), (2, .int v2), (3, .int v3), (4, .int v4), (6, .int v6)]) C dX9_ofMarch_99 5 rfl rfl (by decide) rfl ?_
      refine V.goto (pc := 102) (t := 30) C dX9_ofMarch_102 (by decide) ?_
      refine V.sub (L' := [(0, .ref v0), (1, .int v1), (2, .int v2), (3, .int v3), (4, .int v4), (5, .int (v5 + (1 : Int32)))]) [1, 2, 3, 4, 5, 0] rfl ?_
      exact hk30 _ _ _ _ _ _ _ hf
    replace hf := ite_f c3 hf
    refine V.iload (pc := 68) C dX9_ofMarch_68 4 rfl ?_
    refine V.aload_n (pc := 70) C dX9_ofMarch_70 0 rfl ?_
    refine V.iload_n (pc := 71) C dX9_ofMarch_71 1 rfl ?_
    refine V.iload (pc := 72) C dX9_ofMarch_72 5 rfl ?_
    refine V.iconst (pc := 74) C dX9_ofMarch_74 (v := (2 : Int32)) (by decide) ?_
    refine V.iload (pc := 75) C dX9_ofMarch_75 6 rfl ?_
    refine V.iadd (pc := 77) C dX9_ofMarch_77 ?_
    replace hf := ob_some hf
    obtain ⟨q4, h5, hf⟩ := hf
    refine V.callV0i (pc := 78) C hyX9_elementAt wd_1292 (mX9_elementAt (r := q4.1) (g' := q4.2) K.2.1 E (kS K) h5) rfl rfl rfl (oX9_elementAt h5) ⟨Nat.le_of_ble_eq_true rfl, Nat.le_of_ble_eq_true rfl⟩ (Nat.le_of_ble_eq_true rfl) dX9_ofMarch_78 ⟨Nat.zero_le _, Nat.zero_le _⟩ rfl ?_
    refine V.iconst (pc := 81) C dX9_ofMarch_81 (v := (2 : Int32)) (by decide) ?_
    refine V.icmp_ge (pc := 82) (t := 89) C dX9_ofMarch_82 (by decide) (fun c6 => ?_) (fun c6 => ?_)
    · replace hf := ite_t c6 hf
      refine V.iconst (pc := 89) C dX9_ofMarch_89 (v := (0 : Int32)) (by decide) ?_
      refine V.sub (L' := [(0, .ref v0), (1, .int v1), (2, .int v2), (3, .int v3), (5, .int v5), (6, .int v6)]) [0, 1, 2, 3, 5, 6] rfl ?_
      exact bX9_ofMarch_90 C hk30 ih hf
    replace hf := ite_f c6 hf
    refine V.iconst (pc := 85) C dX9_ofMarch_85 (v := (1 : Int32)) (by decide) ?_
    refine V.goto (pc := 86) (t := 90) C dX9_ofMarch_86 (by decide) ?_
    refine V.sub (L' := [(0, .ref v0), (1, .int v1), (2, .int v2), (3, .int v3), (5, .int v5), (6, .int v6)]) [0, 1, 2, 3, 5, 6] rfl ?_
    exact bX9_ofMarch_90 C hk30 ih hf
def fX9_ofMarch_30  : Nat → PH → Nat → Int32 → Int32 → Int32 → Int32 → Int32 → Option (Int32 × PH)
  | 0, _, _, _, _, _, _, _ => none
  | n + 1, g, v0, v1, v2, v3, v4, v5 =>
  (getR g v0 9 9).bind fun p1 =>
  ((ldI g p1 0 v1).bind fun x3 =>
  (if x3 ≤ v5 then (if v2 = 0 then ((getR g v0 9 9).bind fun p16 =>
  ((ldI g p16 0 v1).bind fun x18 =>
  (some (x18, g)))) else
  (if v2 = (1 : Int32) then (some (v3, g)) else
  (if v2 = (2 : Int32) then (some (v4, g)) else
  (if v2 = (3 : Int32) then ((fX9_anys g v0 v1).bind fun q14 =>
  (some (q14.1, q14.2))) else
  ((getR g v0 9 10).bind fun p10 =>
  ((ldI g p10 0 v1).bind fun x12 =>
  (some (x12, g)))))))) else
  ((fX9_elementAt g v0 v1 v5 (1 : Int32)).bind fun q20 =>
  (fX9_ofMarch_55 (fX9_ofMarch_30 n) FUEL q20.2 v0 v1 v2 (v3 + q20.1) v4 v5 (0 : Int32)))))
set_option maxHeartbeats 4000000 in
set_option maxRecDepth 100000 in
theorem bX9_ofMarch_30 {K : HK} {E : HE} {r : Int32} {g' : PH}  (C : VC K E 7 cX9_ofMarch RX9 (some .int))  : ∀ (n : Nat) (g : PH) (v0 : Nat) (v1 : Int32) (v2 : Int32) (v3 : Int32) (v4 : Int32) (v5 : Int32), fX9_ofMarch_30  n g v0 v1 v2 v3 v4 v5 = some (r, g') → V K E (hRm 2 46 0 0) 7 (hZ K E (some (.int r)) g' 0 0) 0 0 (kS K) g 30 [(0, .ref v0), (1, .int v1), (2, .int v2), (3, .int v3), (4, .int v4), (5, .int v5)] [] := by
  intro n
  induction n with
  | zero =>
    intro g v0 v1 v2 v3 v4 v5 hf
    rw [fX9_ofMarch_30] at hf
    cases hf
  | succ n ih =>
    intro g v0 v1 v2 v3 v4 v5 hf
    rw [fX9_ofMarch_30] at hf
    refine V.iload (pc := 30) C dX9_ofMarch_30 5 rfl ?_
    refine V.aload_n (pc := 32) C dX9_ofMarch_32 0 rfl ?_
    replace hf := ob_some hf
    obtain ⟨p1, h2, hf⟩ := hf
    refine V.getR (pc := 33) C kX9 (k := 9) (by decide) wd_1059 h2 dX9_ofMarch_33 ?_
    refine V.iload_n (pc := 36) C dX9_ofMarch_36 1 rfl ?_
    replace hf := ob_some hf
    obtain ⟨x3, h4, hf⟩ := hf
    refine V.iald (pc := 37) C h4 dX9_ofMarch_37 ?_
    refine V.icmp_ge (pc := 38) (t := 105) C dX9_ofMarch_38 (by decide) (fun c5 => ?_) (fun c5 => ?_)
    · replace hf := ite_t c5 hf
      refine V.iload_n (pc := 105) C dX9_ofMarch_105 2 rfl ?_
      refine V.if_ne (pc := 106) (t := 118) C dX9_ofMarch_106 (by decide) (fun c6 => ?_) (fun c6 => ?_)
      · replace hf := ite_f c6 hf
        refine V.iload_n (pc := 118) C dX9_ofMarch_118 2 rfl ?_
        refine V.iconst (pc := 119) C dX9_ofMarch_119 (v := (1 : Int32)) (by decide) ?_
        refine V.icmp_ne (pc := 120) (t := 127) C dX9_ofMarch_120 (by decide) (fun c7 => ?_) (fun c7 => ?_)
        · replace hf := ite_f c7 hf
          refine V.iload_n (pc := 127) C dX9_ofMarch_127 2 rfl ?_
          refine V.iconst (pc := 128) C dX9_ofMarch_128 (v := (2 : Int32)) (by decide) ?_
          refine V.icmp_ne (pc := 129) (t := 137) C dX9_ofMarch_129 (by decide) (fun c8 => ?_) (fun c8 => ?_)
          · replace hf := ite_f c8 hf
            refine V.iload_n (pc := 137) C dX9_ofMarch_137 2 rfl ?_
            refine V.iconst (pc := 138) C dX9_ofMarch_138 (v := (3 : Int32)) (by decide) ?_
            refine V.icmp_ne (pc := 139) (t := 150) C dX9_ofMarch_139 (by decide) (fun c9 => ?_) (fun c9 => ?_)
            · replace hf := ite_f c9 hf
              refine V.aload_n (pc := 150) C dX9_ofMarch_150 0 rfl ?_
              replace hf := ob_some hf
              obtain ⟨p10, h11, hf⟩ := hf
              refine V.getR (pc := 151) C kX9 (k := 10) (by decide) wd_1060 h11 dX9_ofMarch_151 ?_
              refine V.iload_n (pc := 154) C dX9_ofMarch_154 1 rfl ?_
              replace hf := ob_some hf
              obtain ⟨x12, h13, hf⟩ := hf
              refine V.iald (pc := 155) C h13 dX9_ofMarch_155 ?_
              obtain ⟨f1, f2⟩ := fin2 hf
              clear hf
              subst f1
              subst f2
              exact V.iret (pc := 156) C rfl dX9_ofMarch_156
            replace hf := ite_t c9 hf
            refine V.aload_n (pc := 142) C dX9_ofMarch_142 0 rfl ?_
            refine V.iload_n (pc := 143) C dX9_ofMarch_143 1 rfl ?_
            replace hf := ob_some hf
            obtain ⟨q14, h15, hf⟩ := hf
            refine V.callV0i (pc := 144) C hyX9_anys wd_1296 (mX9_anys (r := q14.1) (g' := q14.2) K.2.1 E (kS K) h15) rfl rfl rfl (oX9_anys h15) ⟨Nat.le_of_ble_eq_true rfl, Nat.le_of_ble_eq_true rfl⟩ (Nat.le_of_ble_eq_true rfl) dX9_ofMarch_144 ⟨Nat.zero_le _, Nat.zero_le _⟩ rfl ?_
            refine V.goto (pc := 147) (t := 156) C dX9_ofMarch_147 (by decide) ?_
            obtain ⟨f1, f2⟩ := fin2 hf
            clear hf
            subst f1
            subst f2
            exact V.iret (pc := 156) C rfl dX9_ofMarch_156
          replace hf := ite_t c8 hf
          refine V.iload (pc := 132) C dX9_ofMarch_132 4 rfl ?_
          refine V.goto (pc := 134) (t := 156) C dX9_ofMarch_134 (by decide) ?_
          obtain ⟨f1, f2⟩ := fin2 hf
          clear hf
          subst f1
          subst f2
          exact V.iret (pc := 156) C rfl dX9_ofMarch_156
        replace hf := ite_t c7 hf
        refine V.iload_n (pc := 123) C dX9_ofMarch_123 3 rfl ?_
        refine V.goto (pc := 124) (t := 156) C dX9_ofMarch_124 (by decide) ?_
        obtain ⟨f1, f2⟩ := fin2 hf
        clear hf
        subst f1
        subst f2
        exact V.iret (pc := 156) C rfl dX9_ofMarch_156
      replace hf := ite_t c6 hf
      refine V.aload_n (pc := 109) C dX9_ofMarch_109 0 rfl ?_
      replace hf := ob_some hf
      obtain ⟨p16, h17, hf⟩ := hf
      refine V.getR (pc := 110) C kX9 (k := 9) (by decide) wd_1059 h17 dX9_ofMarch_110 ?_
      refine V.iload_n (pc := 113) C dX9_ofMarch_113 1 rfl ?_
      replace hf := ob_some hf
      obtain ⟨x18, h19, hf⟩ := hf
      refine V.iald (pc := 114) C h19 dX9_ofMarch_114 ?_
      refine V.goto (pc := 115) (t := 156) C dX9_ofMarch_115 (by decide) ?_
      obtain ⟨f1, f2⟩ := fin2 hf
      clear hf
      subst f1
      subst f2
      exact V.iret (pc := 156) C rfl dX9_ofMarch_156
    replace hf := ite_f c5 hf
    refine V.iload_n (pc := 41) C dX9_ofMarch_41 3 rfl ?_
    refine V.aload_n (pc := 42) C dX9_ofMarch_42 0 rfl ?_
    refine V.iload_n (pc := 43) C dX9_ofMarch_43 1 rfl ?_
    refine V.iload (pc := 44) C dX9_ofMarch_44 5 rfl ?_
    refine V.iconst (pc := 46) C dX9_ofMarch_46 (v := (1 : Int32)) (by decide) ?_
    replace hf := ob_some hf
    obtain ⟨q20, h21, hf⟩ := hf
    refine V.callV0i (pc := 47) C hyX9_elementAt wd_1292 (mX9_elementAt (r := q20.1) (g' := q20.2) K.2.1 E (kS K) h21) rfl rfl rfl (oX9_elementAt h21) ⟨Nat.le_of_ble_eq_true rfl, Nat.le_of_ble_eq_true rfl⟩ (Nat.le_of_ble_eq_true rfl) dX9_ofMarch_47 ⟨Nat.zero_le _, Nat.zero_le _⟩ rfl ?_
    refine V.iadd (pc := 50) C dX9_ofMarch_50 ?_
    refine V.istore_n (pc := 51) (L' := [(3, .int (v3 + q20.1)), (0, .ref v0), (1, .int v1), (2, .int v2), (4, .int v4), (5, .int v5)]) C dX9_ofMarch_51 (by decide) rfl ?_
    refine V.iconst (pc := 52) C dX9_ofMarch_52 (v := (0 : Int32)) (by decide) ?_
    refine V.istore (pc := 53) (L' := [(6, .int (0 : Int32)), (3, .int (v3 + q20.1)), (0, .ref v0), (1, .int v1), (2, .int v2), (4, .int v4), (5, .int v5)]) C dX9_ofMarch_53 (by decide) rfl ?_
    refine V.sub (L' := [(0, .ref v0), (1, .int v1), (2, .int v2), (3, .int (v3 + q20.1)), (4, .int v4), (5, .int v5), (6, .int (0 : Int32))]) [2, 3, 4, 1, 5, 6, 0] rfl ?_
    exact bX9_ofMarch_55 C ih _ _ _ _ _ _ _ _ _ hf
def fX9_ofMarch (g : PH) (a0 : Nat) (a1 : Int32) (a2 : Int32) : Option (Int32 × PH) :=
  okb (isO g a0 9) ((fX9_isMarch g a0 a1).bind fun q1 =>
  (if q1.1 = 0 then (some ((-1 : Int32), q1.2)) else
  ((fX9_isIn q1.2 a2.toInt64 (0 : Int64) (4 : Int64)).bind fun q4 =>
  (if q4.1 = 0 then (some ((-1 : Int32), q4.2)) else
  (fX9_ofMarch_30 FUEL q4.2 a0 a1 a2 (0 : Int32) (0 : Int32) (0 : Int32))))))
theorem oX9_ofMarch {g : PH} {a0 : Nat} {a1 : Int32} {a2 : Int32} {q : (Int32 × PH)} (h : fX9_ofMarch g a0 a1 a2 = some q) : isO g a0 9 = true := by unfold fX9_ofMarch at h; exact (okb_some h).1
theorem hyX9_ofMarch : hMet yX9_ofMarch RX9 cX9_ofMarch 7 (some .int) 2 := ⟨wd_1286, wd_1284, wd_1285, wd_7, rfl, by decide +kernel, by decide +kernel, by decide +kernel⟩
set_option maxHeartbeats 4000000 in
set_option maxRecDepth 100000 in
theorem mX9_ofMarch (l : Launch) (E : HE) (sz : Nat) {g g' : PH} {a0 : Nat} {a1 : Int32} {a2 : Int32} {r : Int32} (hf : fX9_ofMarch g a0 a1 a2 = some (r, g')) : hM l E yX9_ofMarch cX9_ofMarch 7 (some .int) 2 46 0 0 sz g [.ref a0, .int a1, .int a2] (some (.int r)) g' := by
  refine hM.of (by decide) (Nat.le_of_ble_eq_true rfl) (fun K hl C hin hsz => ?_)
  subst hl
  subst hsz
  have C : VC K E 7 cX9_ofMarch RX9 (some .int) := C
  unfold fX9_ofMarch at hf
  replace hf := okb_some hf
  obtain ⟨ho, hf⟩ := hf
  refine V.start (L' := [(0, .ref a0), (1, .int a1), (2, .int a2)]) rfl ?_
  refine V.aload_n (pc := 0) C dX9_ofMarch_0 0 rfl ?_
  refine V.iload_n (pc := 1) C dX9_ofMarch_1 1 rfl ?_
  replace hf := ob_some hf
  obtain ⟨q1, h2, hf⟩ := hf
  refine V.callV0i (pc := 2) C hyX9_isMarch wd_1287 (mX9_isMarch (r := q1.1) (g' := q1.2) K.2.1 E (kS K) h2) rfl rfl rfl (oX9_isMarch h2) ⟨Nat.le_of_ble_eq_true rfl, Nat.le_of_ble_eq_true rfl⟩ (Nat.le_of_ble_eq_true rfl) dX9_ofMarch_2 ⟨Nat.zero_le _, Nat.zero_le _⟩ rfl ?_
  refine V.if_eq (pc := 5) (t := 20) C dX9_ofMarch_5 (by decide) (fun c3 => ?_) (fun c3 => ?_)
  · replace hf := ite_t c3 hf
    refine V.iconst (pc := 20) C dX9_ofMarch_20 (v := (-1 : Int32)) (by decide) ?_
    obtain ⟨f1, f2⟩ := fin2 hf
    clear hf
    subst f1
    subst f2
    exact V.iret (pc := 21) C rfl dX9_ofMarch_21
  replace hf := ite_f c3 hf
  refine V.iload_n (pc := 8) C dX9_ofMarch_8 2 rfl ?_
  refine V.i2l (pc := 9) C dX9_ofMarch_9 ?_
  refine V.lconst (pc := 10) C dX9_ofMarch_10 (v := (0 : Int64)) (by decide) ?_
  refine V.ldc2 (pc := 11) C wd_1291 dX9_ofMarch_11 ?_
  replace hf := ob_some hf
  obtain ⟨q4, h5, hf⟩ := hf
  refine V.callS0i (pc := 14) C hyX9_isIn wd_1182 (mX9_isIn (r := q4.1) (g' := q4.2) K.2.1 E (kS K) h5) rfl ⟨Nat.le_of_ble_eq_true rfl, Nat.le_of_ble_eq_true rfl⟩ (Nat.le_of_ble_eq_true rfl) dX9_ofMarch_14 ⟨Nat.zero_le _, Nat.zero_le _⟩ rfl ?_
  refine V.if_ne (pc := 17) (t := 22) C dX9_ofMarch_17 (by decide) (fun c6 => ?_) (fun c6 => ?_)
  · replace hf := ite_f c6 hf
    refine V.iconst (pc := 22) C dX9_ofMarch_22 (v := (0 : Int32)) (by decide) ?_
    refine V.istore_n (pc := 23) (L' := [(3, .int (0 : Int32)), (0, .ref a0), (1, .int a1), (2, .int a2)]) C dX9_ofMarch_23 (by decide) rfl ?_
    refine V.iconst (pc := 24) C dX9_ofMarch_24 (v := (0 : Int32)) (by decide) ?_
    refine V.istore (pc := 25) (L' := [(4, .int (0 : Int32)), (3, .int (0 : Int32)), (0, .ref a0), (1, .int a1), (2, .int a2)]) C dX9_ofMarch_25 (by decide) rfl ?_
    refine V.iconst (pc := 27) C dX9_ofMarch_27 (v := (0 : Int32)) (by decide) ?_
    refine V.istore (pc := 28) (L' := [(5, .int (0 : Int32)), (4, .int (0 : Int32)), (3, .int (0 : Int32)), (0, .ref a0), (1, .int a1), (2, .int a2)]) C dX9_ofMarch_28 (by decide) rfl ?_
    refine V.sub (L' := [(0, .ref a0), (1, .int a1), (2, .int a2), (3, .int (0 : Int32)), (4, .int (0 : Int32)), (5, .int (0 : Int32))]) [3, 4, 5, 2, 1, 0] rfl ?_
    exact bX9_ofMarch_30 C  _ _ _ _ _ _ _ _ hf
  replace hf := ite_t c6 hf
  refine V.iconst (pc := 20) C dX9_ofMarch_20 (v := (-1 : Int32)) (by decide) ?_
  obtain ⟨f1, f2⟩ := fin2 hf
  clear hf
  subst f1
  subst f2
  exact V.iret (pc := 21) C rfl dX9_ofMarch_21
theorem dX9_element_0 : decode cX9_element 0 = .ok (.aload_n 0, 1) := by decide +kernel
theorem dX9_element_1 : decode cX9_element 1 = .ok (.iload_n 1, 1) := by decide +kernel
theorem dX9_element_2 : decode cX9_element 2 = .ok (.invokevirtual 263, 3) := by decide +kernel
theorem dX9_element_5 : decode cX9_element 5 = .ok (.ifCond .eq 51, 3) := by decide +kernel
theorem dX9_element_8 : decode cX9_element 8 = .ok (.iload_n 2, 1) := by decide +kernel
theorem dX9_element_9 : decode cX9_element 9 = .ok (.i2l, 1) := by decide +kernel
theorem dX9_element_10 : decode cX9_element 10 = .ok (.lconst 0, 1) := by decide +kernel
theorem dX9_element_11 : decode cX9_element 11 = .ok (.aload_n 0, 1) := by decide +kernel
theorem dX9_element_12 : decode cX9_element 12 = .ok (.getfield 23, 3) := by decide +kernel
theorem dX9_element_15 : decode cX9_element 15 = .ok (.iload_n 1, 1) := by decide +kernel
theorem dX9_element_16 : decode cX9_element 16 = .ok (.iaload, 1) := by decide +kernel
theorem dX9_element_17 : decode cX9_element 17 = .ok (.iconst 1, 1) := by decide +kernel
theorem dX9_element_18 : decode cX9_element 18 = .ok (.isub, 1) := by decide +kernel
theorem dX9_element_19 : decode cX9_element 19 = .ok (.i2l, 1) := by decide +kernel
theorem dX9_element_20 : decode cX9_element 20 = .ok (.invokestatic 86, 3) := by decide +kernel
theorem dX9_element_23 : decode cX9_element 23 = .ok (.ifCond .eq 33, 3) := by decide +kernel
theorem dX9_element_26 : decode cX9_element 26 = .ok (.iload_n 3, 1) := by decide +kernel
theorem dX9_element_27 : decode cX9_element 27 = .ok (.i2l, 1) := by decide +kernel
theorem dX9_element_28 : decode cX9_element 28 = .ok (.lconst 0, 1) := by decide +kernel
theorem dX9_element_29 : decode cX9_element 29 = .ok (.ldc2_w 268, 3) := by decide +kernel
theorem dX9_element_32 : decode cX9_element 32 = .ok (.invokestatic 86, 3) := by decide +kernel
theorem dX9_element_35 : decode cX9_element 35 = .ok (.ifCond .eq 21, 3) := by decide +kernel
theorem dX9_element_38 : decode cX9_element 38 = .ok (.iload_n 3, 1) := by decide +kernel
theorem dX9_element_39 : decode cX9_element 39 = .ok (.iconst 1, 1) := by decide +kernel
theorem dX9_element_40 : decode cX9_element 40 = .ok (.if_icmp .le 18, 3) := by decide +kernel
theorem dX9_element_43 : decode cX9_element 43 = .ok (.iload_n 3, 1) := by decide +kernel
theorem dX9_element_44 : decode cX9_element 44 = .ok (.iconst 2, 1) := by decide +kernel
theorem dX9_element_45 : decode cX9_element 45 = .ok (.isub, 1) := by decide +kernel
theorem dX9_element_46 : decode cX9_element 46 = .ok (.aload_n 0, 1) := by decide +kernel
theorem dX9_element_47 : decode cX9_element 47 = .ok (.iload_n 1, 1) := by decide +kernel
theorem dX9_element_48 : decode cX9_element 48 = .ok (.iload_n 2, 1) := by decide +kernel
theorem dX9_element_49 : decode cX9_element 49 = .ok (.iconst 1, 1) := by decide +kernel
theorem dX9_element_50 : decode cX9_element 50 = .ok (.invokevirtual 177, 3) := by decide +kernel
theorem dX9_element_53 : decode cX9_element 53 = .ok (.if_icmp .lt 5, 3) := by decide +kernel
theorem dX9_element_56 : decode cX9_element 56 = .ok (.iconst (-1), 1) := by decide +kernel
theorem dX9_element_57 : decode cX9_element 57 = .ok (.ireturn, 1) := by decide +kernel
theorem dX9_element_58 : decode cX9_element 58 = .ok (.aload_n 0, 1) := by decide +kernel
theorem dX9_element_59 : decode cX9_element 59 = .ok (.iload_n 1, 1) := by decide +kernel
theorem dX9_element_60 : decode cX9_element 60 = .ok (.iload_n 2, 1) := by decide +kernel
theorem dX9_element_61 : decode cX9_element 61 = .ok (.iload_n 3, 1) := by decide +kernel
theorem dX9_element_62 : decode cX9_element 62 = .ok (.invokevirtual 177, 3) := by decide +kernel
theorem dX9_element_65 : decode cX9_element 65 = .ok (.ireturn, 1) := by decide +kernel
def fX9_element_58  (g : PH) (v0 : Nat) (v1 : Int32) (v2 : Int32) (v3 : Int32) : Option (Int32 × PH) :=
  (fX9_elementAt g v0 v1 v2 v3).bind fun q1 =>
  (some (q1.1, q1.2))
set_option maxHeartbeats 4000000 in
set_option maxRecDepth 100000 in
theorem bX9_element_58 {K : HK} {E : HE} {r : Int32} {g' : PH}  (C : VC K E 4 cX9_element RX9 (some .int))  {g : PH} {v0 : Nat} {v1 : Int32} {v2 : Int32} {v3 : Int32} (hf : fX9_element_58  g v0 v1 v2 v3 = some (r, g')) : V K E (hRm 1 25 0 0) 4 (hZ K E (some (.int r)) g' 0 0) 0 0 (kS K) g 58 [(0, .ref v0), (1, .int v1), (2, .int v2), (3, .int v3)] [] := by
  unfold fX9_element_58 at hf
  refine V.aload_n (pc := 58) C dX9_element_58 0 rfl ?_
  refine V.iload_n (pc := 59) C dX9_element_59 1 rfl ?_
  refine V.iload_n (pc := 60) C dX9_element_60 2 rfl ?_
  refine V.iload_n (pc := 61) C dX9_element_61 3 rfl ?_
  replace hf := ob_some hf
  obtain ⟨q1, h2, hf⟩ := hf
  refine V.callV0i (pc := 62) C hyX9_elementAt wd_1292 (mX9_elementAt (r := q1.1) (g' := q1.2) K.2.1 E (kS K) h2) rfl rfl rfl (oX9_elementAt h2) ⟨Nat.le_of_ble_eq_true rfl, Nat.le_of_ble_eq_true rfl⟩ (Nat.le_of_ble_eq_true rfl) dX9_element_62 ⟨Nat.zero_le _, Nat.zero_le _⟩ rfl ?_
  obtain ⟨f1, f2⟩ := fin2 hf
  clear hf
  subst f1
  subst f2
  exact V.iret (pc := 65) C rfl dX9_element_65
def fX9_element (g : PH) (a0 : Nat) (a1 : Int32) (a2 : Int32) (a3 : Int32) : Option (Int32 × PH) :=
  okb (isO g a0 9) ((fX9_isMarch g a0 a1).bind fun q1 =>
  (if q1.1 = 0 then (some ((-1 : Int32), q1.2)) else
  ((getR q1.2 a0 9 9).bind fun p4 =>
  ((ldI q1.2 p4 0 a1).bind fun x6 =>
  ((fX9_isIn q1.2 a2.toInt64 (0 : Int64) (x6 - (1 : Int32)).toInt64).bind fun q8 =>
  (if q8.1 = 0 then (some ((-1 : Int32), q8.2)) else
  ((fX9_isIn q8.2 a3.toInt64 (0 : Int64) (7 : Int64)).bind fun q11 =>
  (if q11.1 = 0 then (some ((-1 : Int32), q11.2)) else
  (if a3 ≤ (1 : Int32) then (fX9_element_58 q11.2 a0 a1 a2 a3) else
  ((fX9_elementAt q11.2 a0 a1 a2 (1 : Int32)).bind fun q15 =>
  (if (a3 - (2 : Int32)) < q15.1 then (fX9_element_58 q15.2 a0 a1 a2 a3) else
  (some ((-1 : Int32), q15.2)))))))))))))
theorem oX9_element {g : PH} {a0 : Nat} {a1 : Int32} {a2 : Int32} {a3 : Int32} {q : (Int32 × PH)} (h : fX9_element g a0 a1 a2 a3 = some q) : isO g a0 9 = true := by unfold fX9_element at h; exact (okb_some h).1
theorem hyX9_element : hMet yX9_element RX9 cX9_element 4 (some .int) 3 := ⟨wd_1303, wd_1301, wd_1302, wd_7, rfl, by decide +kernel, by decide +kernel, by decide +kernel⟩
set_option maxHeartbeats 4000000 in
set_option maxRecDepth 100000 in
theorem mX9_element (l : Launch) (E : HE) (sz : Nat) {g g' : PH} {a0 : Nat} {a1 : Int32} {a2 : Int32} {a3 : Int32} {r : Int32} (hf : fX9_element g a0 a1 a2 a3 = some (r, g')) : hM l E yX9_element cX9_element 4 (some .int) 1 25 0 0 sz g [.ref a0, .int a1, .int a2, .int a3] (some (.int r)) g' := by
  refine hM.of (by decide) (Nat.le_of_ble_eq_true rfl) (fun K hl C hin hsz => ?_)
  subst hl
  subst hsz
  have C : VC K E 4 cX9_element RX9 (some .int) := C
  unfold fX9_element at hf
  replace hf := okb_some hf
  obtain ⟨ho, hf⟩ := hf
  refine V.start (L' := [(0, .ref a0), (1, .int a1), (2, .int a2), (3, .int a3)]) rfl ?_
  refine V.aload_n (pc := 0) C dX9_element_0 0 rfl ?_
  refine V.iload_n (pc := 1) C dX9_element_1 1 rfl ?_
  replace hf := ob_some hf
  obtain ⟨q1, h2, hf⟩ := hf
  refine V.callV0i (pc := 2) C hyX9_isMarch wd_1287 (mX9_isMarch (r := q1.1) (g' := q1.2) K.2.1 E (kS K) h2) rfl rfl rfl (oX9_isMarch h2) ⟨Nat.le_of_ble_eq_true rfl, Nat.le_of_ble_eq_true rfl⟩ (Nat.le_of_ble_eq_true rfl) dX9_element_2 ⟨Nat.zero_le _, Nat.zero_le _⟩ rfl ?_
  refine V.if_eq (pc := 5) (t := 56) C dX9_element_5 (by decide) (fun c3 => ?_) (fun c3 => ?_)
  · replace hf := ite_t c3 hf
    refine V.iconst (pc := 56) C dX9_element_56 (v := (-1 : Int32)) (by decide) ?_
    obtain ⟨f1, f2⟩ := fin2 hf
    clear hf
    subst f1
    subst f2
    exact V.iret (pc := 57) C rfl dX9_element_57
  replace hf := ite_f c3 hf
  refine V.iload_n (pc := 8) C dX9_element_8 2 rfl ?_
  refine V.i2l (pc := 9) C dX9_element_9 ?_
  refine V.lconst (pc := 10) C dX9_element_10 (v := (0 : Int64)) (by decide) ?_
  refine V.aload_n (pc := 11) C dX9_element_11 0 rfl ?_
  replace hf := ob_some hf
  obtain ⟨p4, h5, hf⟩ := hf
  refine V.getR (pc := 12) C kX9 (k := 9) (by decide) wd_1059 h5 dX9_element_12 ?_
  refine V.iload_n (pc := 15) C dX9_element_15 1 rfl ?_
  replace hf := ob_some hf
  obtain ⟨x6, h7, hf⟩ := hf
  refine V.iald (pc := 16) C h7 dX9_element_16 ?_
  refine V.iconst (pc := 17) C dX9_element_17 (v := (1 : Int32)) (by decide) ?_
  refine V.isub (pc := 18) C dX9_element_18 ?_
  refine V.i2l (pc := 19) C dX9_element_19 ?_
  replace hf := ob_some hf
  obtain ⟨q8, h9, hf⟩ := hf
  refine V.callS0i (pc := 20) C hyX9_isIn wd_1182 (mX9_isIn (r := q8.1) (g' := q8.2) K.2.1 E (kS K) h9) rfl ⟨Nat.le_of_ble_eq_true rfl, Nat.le_of_ble_eq_true rfl⟩ (Nat.le_of_ble_eq_true rfl) dX9_element_20 ⟨Nat.zero_le _, Nat.zero_le _⟩ rfl ?_
  refine V.if_eq (pc := 23) (t := 56) C dX9_element_23 (by decide) (fun c10 => ?_) (fun c10 => ?_)
  · replace hf := ite_t c10 hf
    refine V.iconst (pc := 56) C dX9_element_56 (v := (-1 : Int32)) (by decide) ?_
    obtain ⟨f1, f2⟩ := fin2 hf
    clear hf
    subst f1
    subst f2
    exact V.iret (pc := 57) C rfl dX9_element_57
  replace hf := ite_f c10 hf
  refine V.iload_n (pc := 26) C dX9_element_26 3 rfl ?_
  refine V.i2l (pc := 27) C dX9_element_27 ?_
  refine V.lconst (pc := 28) C dX9_element_28 (v := (0 : Int64)) (by decide) ?_
  refine V.ldc2 (pc := 29) C wd_1304 dX9_element_29 ?_
  replace hf := ob_some hf
  obtain ⟨q11, h12, hf⟩ := hf
  refine V.callS0i (pc := 32) C hyX9_isIn wd_1182 (mX9_isIn (r := q11.1) (g' := q11.2) K.2.1 E (kS K) h12) rfl ⟨Nat.le_of_ble_eq_true rfl, Nat.le_of_ble_eq_true rfl⟩ (Nat.le_of_ble_eq_true rfl) dX9_element_32 ⟨Nat.zero_le _, Nat.zero_le _⟩ rfl ?_
  refine V.if_eq (pc := 35) (t := 56) C dX9_element_35 (by decide) (fun c13 => ?_) (fun c13 => ?_)
  · replace hf := ite_t c13 hf
    refine V.iconst (pc := 56) C dX9_element_56 (v := (-1 : Int32)) (by decide) ?_
    obtain ⟨f1, f2⟩ := fin2 hf
    clear hf
    subst f1
    subst f2
    exact V.iret (pc := 57) C rfl dX9_element_57
  replace hf := ite_f c13 hf
  refine V.iload_n (pc := 38) C dX9_element_38 3 rfl ?_
  refine V.iconst (pc := 39) C dX9_element_39 (v := (1 : Int32)) (by decide) ?_
  refine V.icmp_le (pc := 40) (t := 58) C dX9_element_40 (by decide) (fun c14 => ?_) (fun c14 => ?_)
  · replace hf := ite_t c14 hf
    refine V.sub (L' := [(0, .ref a0), (1, .int a1), (2, .int a2), (3, .int a3)]) [0, 1, 2, 3] rfl ?_
    exact bX9_element_58 C  hf
  replace hf := ite_f c14 hf
  refine V.iload_n (pc := 43) C dX9_element_43 3 rfl ?_
  refine V.iconst (pc := 44) C dX9_element_44 (v := (2 : Int32)) (by decide) ?_
  refine V.isub (pc := 45) C dX9_element_45 ?_
  refine V.aload_n (pc := 46) C dX9_element_46 0 rfl ?_
  refine V.iload_n (pc := 47) C dX9_element_47 1 rfl ?_
  refine V.iload_n (pc := 48) C dX9_element_48 2 rfl ?_
  refine V.iconst (pc := 49) C dX9_element_49 (v := (1 : Int32)) (by decide) ?_
  replace hf := ob_some hf
  obtain ⟨q15, h16, hf⟩ := hf
  refine V.callV0i (pc := 50) C hyX9_elementAt wd_1292 (mX9_elementAt (r := q15.1) (g' := q15.2) K.2.1 E (kS K) h16) rfl rfl rfl (oX9_elementAt h16) ⟨Nat.le_of_ble_eq_true rfl, Nat.le_of_ble_eq_true rfl⟩ (Nat.le_of_ble_eq_true rfl) dX9_element_50 ⟨Nat.zero_le _, Nat.zero_le _⟩ rfl ?_
  refine V.icmp_lt (pc := 53) (t := 58) C dX9_element_53 (by decide) (fun c17 => ?_) (fun c17 => ?_)
  · replace hf := ite_t c17 hf
    refine V.sub (L' := [(0, .ref a0), (1, .int a1), (2, .int a2), (3, .int a3)]) [0, 1, 2, 3] rfl ?_
    exact bX9_element_58 C  hf
  replace hf := ite_f c17 hf
  refine V.iconst (pc := 56) C dX9_element_56 (v := (-1 : Int32)) (by decide) ?_
  obtain ⟨f1, f2⟩ := fin2 hf
  clear hf
  subst f1
  subst f2
  exact V.iret (pc := 57) C rfl dX9_element_57
theorem dX9_caught_0 : decode cX9_caught 0 = .ok (.aload_n 0, 1) := by decide +kernel
theorem dX9_caught_1 : decode cX9_caught 1 = .ok (.iload_n 1, 1) := by decide +kernel
theorem dX9_caught_2 : decode cX9_caught 2 = .ok (.invokevirtual 263, 3) := by decide +kernel
theorem dX9_caught_5 : decode cX9_caught 5 = .ok (.ifCond .eq 11, 3) := by decide +kernel
theorem dX9_caught_8 : decode cX9_caught 8 = .ok (.aload_n 0, 1) := by decide +kernel
theorem dX9_caught_9 : decode cX9_caught 9 = .ok (.iload_n 2, 1) := by decide +kernel
theorem dX9_caught_10 : decode cX9_caught 10 = .ok (.invokevirtual 255, 3) := by decide +kernel
theorem dX9_caught_13 : decode cX9_caught 13 = .ok (.ifCond .ne 5, 3) := by decide +kernel
theorem dX9_caught_16 : decode cX9_caught 16 = .ok (.iconst (-1), 1) := by decide +kernel
theorem dX9_caught_17 : decode cX9_caught 17 = .ok (.ireturn, 1) := by decide +kernel
theorem dX9_caught_18 : decode cX9_caught 18 = .ok (.aload_n 0, 1) := by decide +kernel
theorem dX9_caught_19 : decode cX9_caught 19 = .ok (.invokevirtual 270, 3) := by decide +kernel
theorem dX9_caught_22 : decode cX9_caught 22 = .ok (.iconst 0, 1) := by decide +kernel
theorem dX9_caught_23 : decode cX9_caught 23 = .ok (.istore 4, 2) := by decide +kernel
theorem dX9_caught_25 : decode cX9_caught 25 = .ok (.iconst 0, 1) := by decide +kernel
theorem dX9_caught_26 : decode cX9_caught 26 = .ok (.istore 5, 2) := by decide +kernel
theorem dX9_caught_28 : decode cX9_caught 28 = .ok (.iload 5, 2) := by decide +kernel
theorem dX9_caught_30 : decode cX9_caught 30 = .ok (.aload_n 0, 1) := by decide +kernel
theorem dX9_caught_31 : decode cX9_caught 31 = .ok (.iload_n 2, 1) := by decide +kernel
theorem dX9_caught_32 : decode cX9_caught 32 = .ok (.invokevirtual 260, 3) := by decide +kernel
theorem dX9_caught_35 : decode cX9_caught 35 = .ok (.if_icmp .ge 46, 3) := by decide +kernel
theorem dX9_caught_38 : decode cX9_caught 38 = .ok (.aload_n 0, 1) := by decide +kernel
theorem dX9_caught_39 : decode cX9_caught 39 = .ok (.iload_n 2, 1) := by decide +kernel
theorem dX9_caught_40 : decode cX9_caught 40 = .ok (.iload 5, 2) := by decide +kernel
theorem dX9_caught_42 : decode cX9_caught 42 = .ok (.invokevirtual 273, 3) := by decide +kernel
theorem dX9_caught_45 : decode cX9_caught 45 = .ok (.iload 4, 2) := by decide +kernel
theorem dX9_caught_47 : decode cX9_caught 47 = .ok (.iload_n 3, 1) := by decide +kernel
theorem dX9_caught_48 : decode cX9_caught 48 = .ok (.ifCond .eq 10, 3) := by decide +kernel
theorem dX9_caught_51 : decode cX9_caught 51 = .ok (.aload_n 0, 1) := by decide +kernel
theorem dX9_caught_52 : decode cX9_caught 52 = .ok (.invokevirtual 276, 3) := by decide +kernel
theorem dX9_caught_55 : decode cX9_caught 55 = .ok (.ifCond .eq 16, 3) := by decide +kernel
theorem dX9_caught_58 : decode cX9_caught 58 = .ok (.aload_n 0, 1) := by decide +kernel
theorem dX9_caught_59 : decode cX9_caught 59 = .ok (.iload_n 1, 1) := by decide +kernel
theorem dX9_caught_60 : decode cX9_caught 60 = .ok (.iload_n 2, 1) := by decide +kernel
theorem dX9_caught_61 : decode cX9_caught 61 = .ok (.invokevirtual 279, 3) := by decide +kernel
theorem dX9_caught_64 : decode cX9_caught 64 = .ok (.ifCond .ge 7, 3) := by decide +kernel
theorem dX9_caught_67 : decode cX9_caught 67 = .ok (.iconst 1, 1) := by decide +kernel
theorem dX9_caught_68 : decode cX9_caught 68 = .ok (.goto 4, 3) := by decide +kernel
theorem dX9_caught_71 : decode cX9_caught 71 = .ok (.iconst 0, 1) := by decide +kernel
theorem dX9_caught_72 : decode cX9_caught 72 = .ok (.iadd, 1) := by decide +kernel
theorem dX9_caught_73 : decode cX9_caught 73 = .ok (.istore 4, 2) := by decide +kernel
theorem dX9_caught_75 : decode cX9_caught 75 = .ok (.iinc 5 1, 3) := by decide +kernel
theorem dX9_caught_78 : decode cX9_caught 78 = .ok (.goto (-50), 3) := by decide +kernel
theorem dX9_caught_81 : decode cX9_caught 81 = .ok (.aload_n 0, 1) := by decide +kernel
theorem dX9_caught_82 : decode cX9_caught 82 = .ok (.invokevirtual 282, 3) := by decide +kernel
theorem dX9_caught_85 : decode cX9_caught 85 = .ok (.iload 4, 2) := by decide +kernel
theorem dX9_caught_87 : decode cX9_caught 87 = .ok (.ireturn, 1) := by decide +kernel
def fX9_caught_72 (k28 : PH → Nat → Int32 → Int32 → Int32 → Int32 → Int32 → Option (Int32 × PH)) (g : PH) (v0 : Nat) (v1 : Int32) (v2 : Int32) (v3 : Int32) (v5 : Int32) (s0 : Int32) (s1 : Int32) : Option (Int32 × PH) :=
  k28 g v0 v1 v2 v3 (s1 + s0) (v5 + (1 : Int32))
set_option maxHeartbeats 4000000 in
set_option maxRecDepth 100000 in
theorem bX9_caught_72 {K : HK} {E : HE} {r : Int32} {g' : PH} {k28 : PH → Nat → Int32 → Int32 → Int32 → Int32 → Int32 → Option (Int32 × PH)} (C : VC K E 6 cX9_caught RX9 (some .int)) (hk28 : ∀ (g : PH) (v0 : Nat) (v1 : Int32) (v2 : Int32) (v3 : Int32) (v4 : Int32) (v5 : Int32), k28 g v0 v1 v2 v3 v4 v5 = some (r, g') → V K E (hRm 9 216 0 0) 6 (hZ K E (some (.int r)) g' 0 0) 0 0 (kS K) g 28 [(0, .ref v0), (1, .int v1), (2, .int v2), (3, .int v3), (4, .int v4), (5, .int v5)] []) {g : PH} {v0 : Nat} {v1 : Int32} {v2 : Int32} {v3 : Int32} {v5 : Int32} {s0 : Int32} {s1 : Int32} (hf : fX9_caught_72 k28 g v0 v1 v2 v3 v5 s0 s1 = some (r, g')) : V K E (hRm 9 216 0 0) 6 (hZ K E (some (.int r)) g' 0 0) 0 0 (kS K) g 72 [(0, .ref v0), (1, .int v1), (2, .int v2), (3, .int v3), (5, .int v5)] [.int s0, .int s1] := by
  unfold fX9_caught_72 at hf
  refine V.iadd (pc := 72) C dX9_caught_72 ?_
  refine V.istore (pc := 73) (L' := [(4, .int (s1 + s0)), (0, .ref v0), (1, .int v1), (2, .int v2), (3, .int v3), (5, .int v5)]) C dX9_caught_73 (by decide) rfl ?_
  refine V.iinc (pc := 75) (v := (v5 + (1 : Int32))) (L' := [(5, .int (v5 + (1 : Int32))), (4, .int (s1 + s0)), (0, .ref v0), (1, .int v1), (2, .int v2), (3, .int v3)]) C dX9_caught_75 5 rfl rfl (by decide) rfl ?_
  refine V.goto (pc := 78) (t := 28) C dX9_caught_78 (by decide) ?_
  refine V.sub (L' := [(0, .ref v0), (1, .int v1), (2, .int v2), (3, .int v3), (4, .int (s1 + s0)), (5, .int (v5 + (1 : Int32)))]) [2, 3, 4, 5, 1, 0] rfl ?_
  exact hk28 _ _ _ _ _ _ _ hf
def fX9_caught_71 (k28 : PH → Nat → Int32 → Int32 → Int32 → Int32 → Int32 → Option (Int32 × PH)) (g : PH) (v0 : Nat) (v1 : Int32) (v2 : Int32) (v3 : Int32) (v5 : Int32) (s0 : Int32) : Option (Int32 × PH) :=
  fX9_caught_72 (k28) g v0 v1 v2 v3 v5 (0 : Int32) s0
set_option maxHeartbeats 4000000 in
set_option maxRecDepth 100000 in
theorem bX9_caught_71 {K : HK} {E : HE} {r : Int32} {g' : PH} {k28 : PH → Nat → Int32 → Int32 → Int32 → Int32 → Int32 → Option (Int32 × PH)} (C : VC K E 6 cX9_caught RX9 (some .int)) (hk28 : ∀ (g : PH) (v0 : Nat) (v1 : Int32) (v2 : Int32) (v3 : Int32) (v4 : Int32) (v5 : Int32), k28 g v0 v1 v2 v3 v4 v5 = some (r, g') → V K E (hRm 9 216 0 0) 6 (hZ K E (some (.int r)) g' 0 0) 0 0 (kS K) g 28 [(0, .ref v0), (1, .int v1), (2, .int v2), (3, .int v3), (4, .int v4), (5, .int v5)] []) {g : PH} {v0 : Nat} {v1 : Int32} {v2 : Int32} {v3 : Int32} {v5 : Int32} {s0 : Int32} (hf : fX9_caught_71 k28 g v0 v1 v2 v3 v5 s0 = some (r, g')) : V K E (hRm 9 216 0 0) 6 (hZ K E (some (.int r)) g' 0 0) 0 0 (kS K) g 71 [(0, .ref v0), (1, .int v1), (2, .int v2), (3, .int v3), (5, .int v5)] [.int s0] := by
  unfold fX9_caught_71 at hf
  refine V.iconst (pc := 71) C dX9_caught_71 (v := (0 : Int32)) (by decide) ?_
  refine V.sub (L' := [(0, .ref v0), (1, .int v1), (2, .int v2), (3, .int v3), (5, .int v5)]) [0, 1, 2, 3, 4] rfl ?_
  exact bX9_caught_72 C hk28 hf
def fX9_caught_58 (k28 : PH → Nat → Int32 → Int32 → Int32 → Int32 → Int32 → Option (Int32 × PH)) (g : PH) (v0 : Nat) (v1 : Int32) (v2 : Int32) (v3 : Int32) (v5 : Int32) (s0 : Int32) : Option (Int32 × PH) :=
  (fX9_escapeOf g v0 v1 v2).bind fun q1 =>
  (if 0 ≤ q1.1 then (fX9_caught_71 (k28) q1.2 v0 v1 v2 v3 v5 s0) else
  (fX9_caught_72 (k28) q1.2 v0 v1 v2 v3 v5 (1 : Int32) s0))
set_option maxHeartbeats 4000000 in
set_option maxRecDepth 100000 in
theorem bX9_caught_58 {K : HK} {E : HE} {r : Int32} {g' : PH} {k28 : PH → Nat → Int32 → Int32 → Int32 → Int32 → Int32 → Option (Int32 × PH)} (C : VC K E 6 cX9_caught RX9 (some .int)) (hk28 : ∀ (g : PH) (v0 : Nat) (v1 : Int32) (v2 : Int32) (v3 : Int32) (v4 : Int32) (v5 : Int32), k28 g v0 v1 v2 v3 v4 v5 = some (r, g') → V K E (hRm 9 216 0 0) 6 (hZ K E (some (.int r)) g' 0 0) 0 0 (kS K) g 28 [(0, .ref v0), (1, .int v1), (2, .int v2), (3, .int v3), (4, .int v4), (5, .int v5)] []) {g : PH} {v0 : Nat} {v1 : Int32} {v2 : Int32} {v3 : Int32} {v5 : Int32} {s0 : Int32} (hf : fX9_caught_58 k28 g v0 v1 v2 v3 v5 s0 = some (r, g')) : V K E (hRm 9 216 0 0) 6 (hZ K E (some (.int r)) g' 0 0) 0 0 (kS K) g 58 [(0, .ref v0), (1, .int v1), (2, .int v2), (3, .int v3), (5, .int v5)] [.int s0] := by
  unfold fX9_caught_58 at hf
  refine V.aload_n (pc := 58) C dX9_caught_58 0 rfl ?_
  refine V.iload_n (pc := 59) C dX9_caught_59 1 rfl ?_
  refine V.iload_n (pc := 60) C dX9_caught_60 2 rfl ?_
  replace hf := ob_some hf
  obtain ⟨q1, h2, hf⟩ := hf
  refine V.callV0i (pc := 61) C hyX9_escapeOf wd_1321 (mX9_escapeOf (r := q1.1) (g' := q1.2) K.2.1 E (kS K) h2) rfl rfl rfl (oX9_escapeOf h2) ⟨Nat.le_of_ble_eq_true rfl, Nat.le_of_ble_eq_true rfl⟩ (Nat.le_of_ble_eq_true rfl) dX9_caught_61 ⟨Nat.zero_le _, Nat.zero_le _⟩ rfl ?_
  refine V.if_ge (pc := 64) (t := 71) C dX9_caught_64 (by decide) (fun c3 => ?_) (fun c3 => ?_)
  · replace hf := ite_t c3 hf
    refine V.sub (L' := [(0, .ref v0), (1, .int v1), (2, .int v2), (3, .int v3), (5, .int v5)]) [0, 1, 2, 3, 4] rfl ?_
    exact bX9_caught_71 C hk28 hf
  replace hf := ite_f c3 hf
  refine V.iconst (pc := 67) C dX9_caught_67 (v := (1 : Int32)) (by decide) ?_
  refine V.goto (pc := 68) (t := 72) C dX9_caught_68 (by decide) ?_
  refine V.sub (L' := [(0, .ref v0), (1, .int v1), (2, .int v2), (3, .int v3), (5, .int v5)]) [0, 1, 2, 3, 4] rfl ?_
  exact bX9_caught_72 C hk28 hf
def fX9_caught_28  : Nat → PH → Nat → Int32 → Int32 → Int32 → Int32 → Int32 → Option (Int32 × PH)
  | 0, _, _, _, _, _, _, _ => none
  | n + 1, g, v0, v1, v2, v3, v4, v5 =>
  (fX9_placements g v0 v2).bind fun q1 =>
  (if q1.1 ≤ v5 then ((fX9_laysBack q1.2 v0).bind fun q4 =>
  (some (v4, q4.2))) else
  ((fX9_laysPlace q1.2 v0 v2 v5).bind fun q6 =>
  (if v3 = 0 then (fX9_caught_58 (fX9_caught_28 n) q6.2 v0 v1 v2 v3 v5 v4) else
  ((fX9_isNear q6.2 v0).bind fun q9 =>
  (if q9.1 = 0 then (fX9_caught_71 (fX9_caught_28 n) q9.2 v0 v1 v2 v3 v5 v4) else
  (fX9_caught_58 (fX9_caught_28 n) q9.2 v0 v1 v2 v3 v5 v4))))))
set_option maxHeartbeats 4000000 in
set_option maxRecDepth 100000 in
theorem bX9_caught_28 {K : HK} {E : HE} {r : Int32} {g' : PH}  (C : VC K E 6 cX9_caught RX9 (some .int))  : ∀ (n : Nat) (g : PH) (v0 : Nat) (v1 : Int32) (v2 : Int32) (v3 : Int32) (v4 : Int32) (v5 : Int32), fX9_caught_28  n g v0 v1 v2 v3 v4 v5 = some (r, g') → V K E (hRm 9 216 0 0) 6 (hZ K E (some (.int r)) g' 0 0) 0 0 (kS K) g 28 [(0, .ref v0), (1, .int v1), (2, .int v2), (3, .int v3), (4, .int v4), (5, .int v5)] [] := by
  intro n
  induction n with
  | zero =>
    intro g v0 v1 v2 v3 v4 v5 hf
    rw [fX9_caught_28] at hf
    cases hf
  | succ n ih =>
    intro g v0 v1 v2 v3 v4 v5 hf
    rw [fX9_caught_28] at hf
    refine V.iload (pc := 28) C dX9_caught_28 5 rfl ?_
    refine V.aload_n (pc := 30) C dX9_caught_30 0 rfl ?_
    refine V.iload_n (pc := 31) C dX9_caught_31 2 rfl ?_
    replace hf := ob_some hf
    obtain ⟨q1, h2, hf⟩ := hf
    refine V.callV0i (pc := 32) C hyX9_placements wd_1279 (mX9_placements (r := q1.1) (g' := q1.2) K.2.1 E (kS K) h2) rfl rfl rfl (oX9_placements h2) ⟨Nat.le_of_ble_eq_true rfl, Nat.le_of_ble_eq_true rfl⟩ (Nat.le_of_ble_eq_true rfl) dX9_caught_32 ⟨Nat.zero_le _, Nat.zero_le _⟩ rfl ?_
    refine V.icmp_ge (pc := 35) (t := 81) C dX9_caught_35 (by decide) (fun c3 => ?_) (fun c3 => ?_)
    · replace hf := ite_t c3 hf
      refine V.aload_n (pc := 81) C dX9_caught_81 0 rfl ?_
      replace hf := ob_some hf
      obtain ⟨q4, h5, hf⟩ := hf
      refine V.callV0v (pc := 82) C hyX9_laysBack wd_1388 (mX9_laysBack (r := q4.1) (g' := q4.2) K.2.1 E (kS K) h5) rfl rfl rfl (oX9_laysBack h5) ⟨Nat.le_of_ble_eq_true rfl, Nat.le_of_ble_eq_true rfl⟩ (Nat.le_of_ble_eq_true rfl) dX9_caught_82 ⟨Nat.zero_le _, Nat.zero_le _⟩ rfl ?_
      refine V.iload (pc := 85) C dX9_caught_85 4 rfl ?_
      obtain ⟨f1, f2⟩ := fin2 hf
      clear hf
      subst f1
      subst f2
      exact V.iret (pc := 87) C rfl dX9_caught_87
    replace hf := ite_f c3 hf
    refine V.aload_n (pc := 38) C dX9_caught_38 0 rfl ?_
    refine V.iload_n (pc := 39) C dX9_caught_39 2 rfl ?_
    refine V.iload (pc := 40) C dX9_caught_40 5 rfl ?_
    replace hf := ob_some hf
    obtain ⟨q6, h7, hf⟩ := hf
    refine V.callV0v (pc := 42) C hyX9_laysPlace wd_1313 (mX9_laysPlace (r := q6.1) (g' := q6.2) K.2.1 E (kS K) h7) rfl rfl rfl (oX9_laysPlace h7) ⟨Nat.le_of_ble_eq_true rfl, Nat.le_of_ble_eq_true rfl⟩ (Nat.le_of_ble_eq_true rfl) dX9_caught_42 ⟨Nat.zero_le _, Nat.zero_le _⟩ rfl ?_
    refine V.iload (pc := 45) C dX9_caught_45 4 rfl ?_
    refine V.iload_n (pc := 47) C dX9_caught_47 3 rfl ?_
    refine V.if_eq (pc := 48) (t := 58) C dX9_caught_48 (by decide) (fun c8 => ?_) (fun c8 => ?_)
    · replace hf := ite_t c8 hf
      refine V.sub (L' := [(0, .ref v0), (1, .int v1), (2, .int v2), (3, .int v3), (5, .int v5)]) [0, 1, 2, 3, 5] rfl ?_
      exact bX9_caught_58 C ih hf
    replace hf := ite_f c8 hf
    refine V.aload_n (pc := 51) C dX9_caught_51 0 rfl ?_
    replace hf := ob_some hf
    obtain ⟨q9, h10, hf⟩ := hf
    refine V.callV0i (pc := 52) C hyX9_isNear wd_1317 (mX9_isNear (r := q9.1) (g' := q9.2) K.2.1 E (kS K) h10) rfl rfl rfl (oX9_isNear h10) ⟨Nat.le_of_ble_eq_true rfl, Nat.le_of_ble_eq_true rfl⟩ (Nat.le_of_ble_eq_true rfl) dX9_caught_52 ⟨Nat.zero_le _, Nat.zero_le _⟩ rfl ?_
    refine V.if_eq (pc := 55) (t := 71) C dX9_caught_55 (by decide) (fun c11 => ?_) (fun c11 => ?_)
    · replace hf := ite_t c11 hf
      refine V.sub (L' := [(0, .ref v0), (1, .int v1), (2, .int v2), (3, .int v3), (5, .int v5)]) [0, 1, 2, 3, 5] rfl ?_
      exact bX9_caught_71 C ih hf
    replace hf := ite_f c11 hf
    refine V.sub (L' := [(0, .ref v0), (1, .int v1), (2, .int v2), (3, .int v3), (5, .int v5)]) [0, 1, 2, 3, 5] rfl ?_
    exact bX9_caught_58 C ih hf
def fX9_caught (g : PH) (a0 : Nat) (a1 : Int32) (a2 : Int32) (a3 : Int32) : Option (Int32 × PH) :=
  okb (isO g a0 9) ((fX9_isMarch g a0 a1).bind fun q1 =>
  (if q1.1 = 0 then (some ((-1 : Int32), q1.2)) else
  ((fX9_isKind q1.2 a0 a2).bind fun q4 =>
  (if q4.1 = 0 then (some ((-1 : Int32), q4.2)) else
  ((fX9_keepsAside q4.2 a0).bind fun q7 =>
  (fX9_caught_28 FUEL q7.2 a0 a1 a2 a3 (0 : Int32) (0 : Int32)))))))
theorem oX9_caught {g : PH} {a0 : Nat} {a1 : Int32} {a2 : Int32} {a3 : Int32} {q : (Int32 × PH)} (h : fX9_caught g a0 a1 a2 a3 = some q) : isO g a0 9 = true := by unfold fX9_caught at h; exact (okb_some h).1
theorem hyX9_caught : hMet yX9_caught RX9 cX9_caught 6 (some .int) 3 := ⟨wd_1308, wd_1306, wd_1307, wd_7, rfl, by decide +kernel, by decide +kernel, by decide +kernel⟩
set_option maxHeartbeats 4000000 in
set_option maxRecDepth 100000 in
theorem mX9_caught (l : Launch) (E : HE) (sz : Nat) {g g' : PH} {a0 : Nat} {a1 : Int32} {a2 : Int32} {a3 : Int32} {r : Int32} (hf : fX9_caught g a0 a1 a2 a3 = some (r, g')) : hM l E yX9_caught cX9_caught 6 (some .int) 9 216 0 0 sz g [.ref a0, .int a1, .int a2, .int a3] (some (.int r)) g' := by
  refine hM.of (by decide) (Nat.le_of_ble_eq_true rfl) (fun K hl C hin hsz => ?_)
  subst hl
  subst hsz
  have C : VC K E 6 cX9_caught RX9 (some .int) := C
  unfold fX9_caught at hf
  replace hf := okb_some hf
  obtain ⟨ho, hf⟩ := hf
  refine V.start (L' := [(0, .ref a0), (1, .int a1), (2, .int a2), (3, .int a3)]) rfl ?_
  refine V.aload_n (pc := 0) C dX9_caught_0 0 rfl ?_
  refine V.iload_n (pc := 1) C dX9_caught_1 1 rfl ?_
  replace hf := ob_some hf
  obtain ⟨q1, h2, hf⟩ := hf
  refine V.callV0i (pc := 2) C hyX9_isMarch wd_1287 (mX9_isMarch (r := q1.1) (g' := q1.2) K.2.1 E (kS K) h2) rfl rfl rfl (oX9_isMarch h2) ⟨Nat.le_of_ble_eq_true rfl, Nat.le_of_ble_eq_true rfl⟩ (Nat.le_of_ble_eq_true rfl) dX9_caught_2 ⟨Nat.zero_le _, Nat.zero_le _⟩ rfl ?_
  refine V.if_eq (pc := 5) (t := 16) C dX9_caught_5 (by decide) (fun c3 => ?_) (fun c3 => ?_)
  · replace hf := ite_t c3 hf
    refine V.iconst (pc := 16) C dX9_caught_16 (v := (-1 : Int32)) (by decide) ?_
    obtain ⟨f1, f2⟩ := fin2 hf
    clear hf
    subst f1
    subst f2
    exact V.iret (pc := 17) C rfl dX9_caught_17
  replace hf := ite_f c3 hf
  refine V.aload_n (pc := 8) C dX9_caught_8 0 rfl ?_
  refine V.iload_n (pc := 9) C dX9_caught_9 2 rfl ?_
  replace hf := ob_some hf
  obtain ⟨q4, h5, hf⟩ := hf
  refine V.callV0i (pc := 10) C hyX9_isKind wd_1270 (mX9_isKind (r := q4.1) (g' := q4.2) K.2.1 E (kS K) h5) rfl rfl rfl (oX9_isKind h5) ⟨Nat.le_of_ble_eq_true rfl, Nat.le_of_ble_eq_true rfl⟩ (Nat.le_of_ble_eq_true rfl) dX9_caught_10 ⟨Nat.zero_le _, Nat.zero_le _⟩ rfl ?_
  refine V.if_ne (pc := 13) (t := 18) C dX9_caught_13 (by decide) (fun c6 => ?_) (fun c6 => ?_)
  · replace hf := ite_f c6 hf
    refine V.aload_n (pc := 18) C dX9_caught_18 0 rfl ?_
    replace hf := ob_some hf
    obtain ⟨q7, h8, hf⟩ := hf
    refine V.callV0v (pc := 19) C hyX9_keepsAside wd_1309 (mX9_keepsAside (r := q7.1) (g' := q7.2) K.2.1 E (kS K) h8) rfl rfl rfl (oX9_keepsAside h8) ⟨Nat.le_of_ble_eq_true rfl, Nat.le_of_ble_eq_true rfl⟩ (Nat.le_of_ble_eq_true rfl) dX9_caught_19 ⟨Nat.zero_le _, Nat.zero_le _⟩ rfl ?_
    refine V.iconst (pc := 22) C dX9_caught_22 (v := (0 : Int32)) (by decide) ?_
    refine V.istore (pc := 23) (L' := [(4, .int (0 : Int32)), (0, .ref a0), (1, .int a1), (2, .int a2), (3, .int a3)]) C dX9_caught_23 (by decide) rfl ?_
    refine V.iconst (pc := 25) C dX9_caught_25 (v := (0 : Int32)) (by decide) ?_
    refine V.istore (pc := 26) (L' := [(5, .int (0 : Int32)), (4, .int (0 : Int32)), (0, .ref a0), (1, .int a1), (2, .int a2), (3, .int a3)]) C dX9_caught_26 (by decide) rfl ?_
    refine V.sub (L' := [(0, .ref a0), (1, .int a1), (2, .int a2), (3, .int a3), (4, .int (0 : Int32)), (5, .int (0 : Int32))]) [2, 3, 4, 5, 1, 0] rfl ?_
    exact bX9_caught_28 C  _ _ _ _ _ _ _ _ hf
  replace hf := ite_t c6 hf
  refine V.iconst (pc := 16) C dX9_caught_16 (v := (-1 : Int32)) (by decide) ?_
  obtain ⟨f1, f2⟩ := fin2 hf
  clear hf
  subst f1
  subst f2
  exact V.iret (pc := 17) C rfl dX9_caught_17
theorem dX9_escape_0 : decode cX9_escape 0 = .ok (.aload_n 0, 1) := by decide +kernel
theorem dX9_escape_1 : decode cX9_escape 1 = .ok (.iload_n 1, 1) := by decide +kernel
theorem dX9_escape_2 : decode cX9_escape 2 = .ok (.invokevirtual 263, 3) := by decide +kernel
theorem dX9_escape_5 : decode cX9_escape 5 = .ok (.ifCond .eq 24, 3) := by decide +kernel
theorem dX9_escape_8 : decode cX9_escape 8 = .ok (.aload_n 0, 1) := by decide +kernel
theorem dX9_escape_9 : decode cX9_escape 9 = .ok (.iload_n 2, 1) := by decide +kernel
theorem dX9_escape_10 : decode cX9_escape 10 = .ok (.invokevirtual 255, 3) := by decide +kernel
theorem dX9_escape_13 : decode cX9_escape 13 = .ok (.ifCond .eq 16, 3) := by decide +kernel
theorem dX9_escape_16 : decode cX9_escape 16 = .ok (.iload 4, 2) := by decide +kernel
theorem dX9_escape_18 : decode cX9_escape 18 = .ok (.i2l, 1) := by decide +kernel
theorem dX9_escape_19 : decode cX9_escape 19 = .ok (.lconst 0, 1) := by decide +kernel
theorem dX9_escape_20 : decode cX9_escape 20 = .ok (.ldc2_w 258, 3) := by decide +kernel
theorem dX9_escape_23 : decode cX9_escape 23 = .ok (.invokestatic 86, 3) := by decide +kernel
theorem dX9_escape_26 : decode cX9_escape 26 = .ok (.ifCond .ne 5, 3) := by decide +kernel
theorem dX9_escape_29 : decode cX9_escape 29 = .ok (.iconst (-1), 1) := by decide +kernel
theorem dX9_escape_30 : decode cX9_escape 30 = .ok (.ireturn, 1) := by decide +kernel
theorem dX9_escape_31 : decode cX9_escape 31 = .ok (.aload_n 0, 1) := by decide +kernel
theorem dX9_escape_32 : decode cX9_escape 32 = .ok (.invokevirtual 270, 3) := by decide +kernel
theorem dX9_escape_35 : decode cX9_escape 35 = .ok (.iconst (-1), 1) := by decide +kernel
theorem dX9_escape_36 : decode cX9_escape 36 = .ok (.istore 5, 2) := by decide +kernel
theorem dX9_escape_38 : decode cX9_escape 38 = .ok (.iconst 0, 1) := by decide +kernel
theorem dX9_escape_39 : decode cX9_escape 39 = .ok (.istore 6, 2) := by decide +kernel
theorem dX9_escape_41 : decode cX9_escape 41 = .ok (.iload 6, 2) := by decide +kernel
theorem dX9_escape_43 : decode cX9_escape 43 = .ok (.aload_n 0, 1) := by decide +kernel
theorem dX9_escape_44 : decode cX9_escape 44 = .ok (.iload_n 2, 1) := by decide +kernel
theorem dX9_escape_45 : decode cX9_escape 45 = .ok (.invokevirtual 260, 3) := by decide +kernel
theorem dX9_escape_48 : decode cX9_escape 48 = .ok (.if_icmp .ge 40, 3) := by decide +kernel
theorem dX9_escape_51 : decode cX9_escape 51 = .ok (.iload 5, 2) := by decide +kernel
theorem dX9_escape_53 : decode cX9_escape 53 = .ok (.ifCond .ge 35, 3) := by decide +kernel
theorem dX9_escape_56 : decode cX9_escape 56 = .ok (.aload_n 0, 1) := by decide +kernel
theorem dX9_escape_57 : decode cX9_escape 57 = .ok (.iload_n 2, 1) := by decide +kernel
theorem dX9_escape_58 : decode cX9_escape 58 = .ok (.iload 6, 2) := by decide +kernel
theorem dX9_escape_60 : decode cX9_escape 60 = .ok (.invokevirtual 273, 3) := by decide +kernel
theorem dX9_escape_63 : decode cX9_escape 63 = .ok (.iload_n 3, 1) := by decide +kernel
theorem dX9_escape_64 : decode cX9_escape 64 = .ok (.ifCond .eq 10, 3) := by decide +kernel
theorem dX9_escape_67 : decode cX9_escape 67 = .ok (.aload_n 0, 1) := by decide +kernel
theorem dX9_escape_68 : decode cX9_escape 68 = .ok (.invokevirtual 276, 3) := by decide +kernel
theorem dX9_escape_71 : decode cX9_escape 71 = .ok (.ifCond .eq 11, 3) := by decide +kernel
theorem dX9_escape_74 : decode cX9_escape 74 = .ok (.aload_n 0, 1) := by decide +kernel
theorem dX9_escape_75 : decode cX9_escape 75 = .ok (.iload_n 1, 1) := by decide +kernel
theorem dX9_escape_76 : decode cX9_escape 76 = .ok (.iload_n 2, 1) := by decide +kernel
theorem dX9_escape_77 : decode cX9_escape 77 = .ok (.invokevirtual 279, 3) := by decide +kernel
theorem dX9_escape_80 : decode cX9_escape 80 = .ok (.istore 5, 2) := by decide +kernel
theorem dX9_escape_82 : decode cX9_escape 82 = .ok (.iinc 6 1, 3) := by decide +kernel
theorem dX9_escape_85 : decode cX9_escape 85 = .ok (.goto (-44), 3) := by decide +kernel
theorem dX9_escape_88 : decode cX9_escape 88 = .ok (.aload_n 0, 1) := by decide +kernel
theorem dX9_escape_89 : decode cX9_escape 89 = .ok (.invokevirtual 282, 3) := by decide +kernel
theorem dX9_escape_92 : decode cX9_escape 92 = .ok (.iload 5, 2) := by decide +kernel
theorem dX9_escape_94 : decode cX9_escape 94 = .ok (.ifCond .ge 6, 3) := by decide +kernel
theorem dX9_escape_97 : decode cX9_escape 97 = .ok (.bipush (-2), 2) := by decide +kernel
theorem dX9_escape_99 : decode cX9_escape 99 = .ok (.ireturn, 1) := by decide +kernel
theorem dX9_escape_100 : decode cX9_escape 100 = .ok (.iload 4, 2) := by decide +kernel
theorem dX9_escape_102 : decode cX9_escape 102 = .ok (.ifCond .ne 10, 3) := by decide +kernel
theorem dX9_escape_105 : decode cX9_escape 105 = .ok (.aload_n 0, 1) := by decide +kernel
theorem dX9_escape_106 : decode cX9_escape 106 = .ok (.getfield 243, 3) := by decide +kernel
theorem dX9_escape_109 : decode cX9_escape 109 = .ok (.goto 35, 3) := by decide +kernel
theorem dX9_escape_112 : decode cX9_escape 112 = .ok (.iload 4, 2) := by decide +kernel
theorem dX9_escape_114 : decode cX9_escape 114 = .ok (.iconst 1, 1) := by decide +kernel
theorem dX9_escape_115 : decode cX9_escape 115 = .ok (.if_icmp .ne 10, 3) := by decide +kernel
theorem dX9_escape_118 : decode cX9_escape 118 = .ok (.aload_n 0, 1) := by decide +kernel
theorem dX9_escape_119 : decode cX9_escape 119 = .ok (.getfield 240, 3) := by decide +kernel
theorem dX9_escape_122 : decode cX9_escape 122 = .ok (.goto 22, 3) := by decide +kernel
theorem dX9_escape_125 : decode cX9_escape 125 = .ok (.iload 4, 2) := by decide +kernel
theorem dX9_escape_127 : decode cX9_escape 127 = .ok (.iconst 2, 1) := by decide +kernel
theorem dX9_escape_128 : decode cX9_escape 128 = .ok (.if_icmp .ne 11, 3) := by decide +kernel
theorem dX9_escape_131 : decode cX9_escape 131 = .ok (.iload 5, 2) := by decide +kernel
theorem dX9_escape_133 : decode cX9_escape 133 = .ok (.bipush 8, 2) := by decide +kernel
theorem dX9_escape_135 : decode cX9_escape 135 = .ok (.idiv, 1) := by decide +kernel
theorem dX9_escape_136 : decode cX9_escape 136 = .ok (.goto 8, 3) := by decide +kernel
theorem dX9_escape_139 : decode cX9_escape 139 = .ok (.iload 5, 2) := by decide +kernel
theorem dX9_escape_141 : decode cX9_escape 141 = .ok (.bipush 8, 2) := by decide +kernel
theorem dX9_escape_143 : decode cX9_escape 143 = .ok (.irem, 1) := by decide +kernel
theorem dX9_escape_144 : decode cX9_escape 144 = .ok (.ireturn, 1) := by decide +kernel
def fX9_escape_82 (k41 : PH → Nat → Int32 → Int32 → Int32 → Int32 → Int32 → Int32 → Option (Int32 × PH)) (g : PH) (v0 : Nat) (v1 : Int32) (v2 : Int32) (v3 : Int32) (v4 : Int32) (v5 : Int32) (v6 : Int32) : Option (Int32 × PH) :=
  k41 g v0 v1 v2 v3 v4 v5 (v6 + (1 : Int32))
set_option maxHeartbeats 4000000 in
set_option maxRecDepth 100000 in
theorem bX9_escape_82 {K : HK} {E : HE} {r : Int32} {g' : PH} {k41 : PH → Nat → Int32 → Int32 → Int32 → Int32 → Int32 → Int32 → Option (Int32 × PH)} (C : VC K E 7 cX9_escape RX9 (some .int)) (hk41 : ∀ (g : PH) (v0 : Nat) (v1 : Int32) (v2 : Int32) (v3 : Int32) (v4 : Int32) (v5 : Int32) (v6 : Int32), k41 g v0 v1 v2 v3 v4 v5 v6 = some (r, g') → V K E (hRm 9 216 0 0) 7 (hZ K E (some (.int r)) g' 0 0) 0 0 (kS K) g 41 [(0, .ref v0), (1, .int v1), (2, .int v2), (3, .int v3), (4, .int v4), (5, .int v5), (6, .int v6)] []) {g : PH} {v0 : Nat} {v1 : Int32} {v2 : Int32} {v3 : Int32} {v4 : Int32} {v5 : Int32} {v6 : Int32} (hf : fX9_escape_82 k41 g v0 v1 v2 v3 v4 v5 v6 = some (r, g')) : V K E (hRm 9 216 0 0) 7 (hZ K E (some (.int r)) g' 0 0) 0 0 (kS K) g 82 [(0, .ref v0), (1, .int v1), (2, .int v2), (3, .int v3), (4, .int v4), (5, .int v5), (6, .int v6)] [] := by
  unfold fX9_escape_82 at hf
  refine V.iinc (pc := 82) (v := (v6 + (1 : Int32))) (L' := [(6, .int (v6 + (1 : Int32))), (0, .ref v0), (1, .int v1), (2, .int v2), (3, .int v3), (4, .int v4), (5, .int v5)]) C dX9_escape_82 6 rfl rfl (by decide) rfl ?_
  refine V.goto (pc := 85) (t := 41) C dX9_escape_85 (by decide) ?_
  refine V.sub (L' := [(0, .ref v0), (1, .int v1), (2, .int v2), (3, .int v3), (4, .int v4), (5, .int v5), (6, .int (v6 + (1 : Int32)))]) [1, 2, 3, 4, 5, 6, 0] rfl ?_
  exact hk41 _ _ _ _ _ _ _ _ hf
def fX9_escape_74 (k41 : PH → Nat → Int32 → Int32 → Int32 → Int32 → Int32 → Int32 → Option (Int32 × PH)) (g : PH) (v0 : Nat) (v1 : Int32) (v2 : Int32) (v3 : Int32) (v4 : Int32) (v6 : Int32) : Option (Int32 × PH) :=
  (fX9_escapeOf g v0 v1 v2).bind fun q1 =>
  (fX9_escape_82 (k41) q1.2 v0 v1 v2 v3 v4 q1.1 v6)
set_option maxHeartbeats 4000000 in
set_option maxRecDepth 100000 in
theorem bX9_escape_74 {K : HK} {E : HE} {r : Int32} {g' : PH} {k41 : PH → Nat → Int32 → Int32 → Int32 → Int32 → Int32 → Int32 → Option (Int32 × PH)} (C : VC K E 7 cX9_escape RX9 (some .int)) (hk41 : ∀ (g : PH) (v0 : Nat) (v1 : Int32) (v2 : Int32) (v3 : Int32) (v4 : Int32) (v5 : Int32) (v6 : Int32), k41 g v0 v1 v2 v3 v4 v5 v6 = some (r, g') → V K E (hRm 9 216 0 0) 7 (hZ K E (some (.int r)) g' 0 0) 0 0 (kS K) g 41 [(0, .ref v0), (1, .int v1), (2, .int v2), (3, .int v3), (4, .int v4), (5, .int v5), (6, .int v6)] []) {g : PH} {v0 : Nat} {v1 : Int32} {v2 : Int32} {v3 : Int32} {v4 : Int32} {v6 : Int32} (hf : fX9_escape_74 k41 g v0 v1 v2 v3 v4 v6 = some (r, g')) : V K E (hRm 9 216 0 0) 7 (hZ K E (some (.int r)) g' 0 0) 0 0 (kS K) g 74 [(0, .ref v0), (1, .int v1), (2, .int v2), (3, .int v3), (4, .int v4), (6, .int v6)] [] := by
  unfold fX9_escape_74 at hf
  refine V.aload_n (pc := 74) C dX9_escape_74 0 rfl ?_
  refine V.iload_n (pc := 75) C dX9_escape_75 1 rfl ?_
  refine V.iload_n (pc := 76) C dX9_escape_76 2 rfl ?_
  replace hf := ob_some hf
  obtain ⟨q1, h2, hf⟩ := hf
  refine V.callV0i (pc := 77) C hyX9_escapeOf wd_1321 (mX9_escapeOf (r := q1.1) (g' := q1.2) K.2.1 E (kS K) h2) rfl rfl rfl (oX9_escapeOf h2) ⟨Nat.le_of_ble_eq_true rfl, Nat.le_of_ble_eq_true rfl⟩ (Nat.le_of_ble_eq_true rfl) dX9_escape_77 ⟨Nat.zero_le _, Nat.zero_le _⟩ rfl ?_
  refine V.istore (pc := 80) (L' := [(5, .int q1.1), (0, .ref v0), (1, .int v1), (2, .int v2), (3, .int v3), (4, .int v4), (6, .int v6)]) C dX9_escape_80 (by decide) rfl ?_
  refine V.sub (L' := [(0, .ref v0), (1, .int v1), (2, .int v2), (3, .int v3), (4, .int v4), (5, .int q1.1), (6, .int v6)]) [1, 2, 3, 4, 5, 0, 6] rfl ?_
  exact bX9_escape_82 C hk41 hf
def fX9_escape_88  (g : PH) (v0 : Nat) (v4 : Int32) (v5 : Int32) : Option (Int32 × PH) :=
  (fX9_laysBack g v0).bind fun q1 =>
  (if 0 ≤ v5 then (if v4 = 0 then ((getI q1.2 v0 9 24).bind fun x9 =>
  (some (x9, q1.2))) else
  (if v4 = (1 : Int32) then ((getI q1.2 v0 9 23).bind fun x7 =>
  (some (x7, q1.2))) else
  (if v4 = (2 : Int32) then (some ((v5 / (8 : Int32)), q1.2)) else
  (some ((v5 - v5 / (8 : Int32) * (8 : Int32)), q1.2))))) else
  (some ((-2 : Int32), q1.2)))
set_option maxHeartbeats 4000000 in
set_option maxRecDepth 100000 in
theorem bX9_escape_88 {K : HK} {E : HE} {r : Int32} {g' : PH}  (C : VC K E 7 cX9_escape RX9 (some .int))  {g : PH} {v0 : Nat} {v4 : Int32} {v5 : Int32} (hf : fX9_escape_88  g v0 v4 v5 = some (r, g')) : V K E (hRm 9 216 0 0) 7 (hZ K E (some (.int r)) g' 0 0) 0 0 (kS K) g 88 [(0, .ref v0), (4, .int v4), (5, .int v5)] [] := by
  unfold fX9_escape_88 at hf
  refine V.aload_n (pc := 88) C dX9_escape_88 0 rfl ?_
  replace hf := ob_some hf
  obtain ⟨q1, h2, hf⟩ := hf
  refine V.callV0v (pc := 89) C hyX9_laysBack wd_1388 (mX9_laysBack (r := q1.1) (g' := q1.2) K.2.1 E (kS K) h2) rfl rfl rfl (oX9_laysBack h2) ⟨Nat.le_of_ble_eq_true rfl, Nat.le_of_ble_eq_true rfl⟩ (Nat.le_of_ble_eq_true rfl) dX9_escape_89 ⟨Nat.zero_le _, Nat.zero_le _⟩ rfl ?_
  refine V.iload (pc := 92) C dX9_escape_92 2 rfl ?_
  refine V.if_ge (pc := 94) (t := 100) C dX9_escape_94 (by decide) (fun c3 => ?_) (fun c3 => ?_)
  · replace hf := ite_t c3 hf
    refine V.iload (pc := 100) C dX9_escape_100 1 rfl ?_
    refine V.if_ne (pc := 102) (t := 112) C dX9_escape_102 (by decide) (fun c4 => ?_) (fun c4 => ?_)
    · replace hf := ite_f c4 hf
      refine V.iload (pc := 112) C dX9_escape_112 1 rfl ?_
      refine V.iconst (pc := 114) C dX9_escape_114 (v := (1 : Int32)) (by decide) ?_
      refine V.icmp_ne (pc := 115) (t := 125) C dX9_escape_115 (by decide) (fun c5 => ?_) (fun c5 => ?_)
      · replace hf := ite_f c5 hf
        refine V.iload (pc := 125) C dX9_escape_125 1 rfl ?_
        refine V.iconst (pc := 127) C dX9_escape_127 (v := (2 : Int32)) (by decide) ?_
        refine V.icmp_ne (pc := 128) (t := 139) C dX9_escape_128 (by decide) (fun c6 => ?_) (fun c6 => ?_)
        · replace hf := ite_f c6 hf
          refine V.iload (pc := 139) C dX9_escape_139 2 rfl ?_
          refine V.bipush (pc := 141) C dX9_escape_141 (v := (8 : Int32)) (by decide) ?_
          refine V.irem (pc := 143) C dX9_escape_143 (by decide) ?_
          obtain ⟨f1, f2⟩ := fin2 hf
          clear hf
          subst f1
          subst f2
          exact V.iret (pc := 144) C rfl dX9_escape_144
        replace hf := ite_t c6 hf
        refine V.iload (pc := 131) C dX9_escape_131 2 rfl ?_
        refine V.bipush (pc := 133) C dX9_escape_133 (v := (8 : Int32)) (by decide) ?_
        refine V.idiv (pc := 135) C dX9_escape_135 (by decide) ?_
        refine V.goto (pc := 136) (t := 144) C dX9_escape_136 (by decide) ?_
        obtain ⟨f1, f2⟩ := fin2 hf
        clear hf
        subst f1
        subst f2
        exact V.iret (pc := 144) C rfl dX9_escape_144
      replace hf := ite_t c5 hf
      refine V.aload_n (pc := 118) C dX9_escape_118 0 rfl ?_
      replace hf := ob_some hf
      obtain ⟨x7, h8, hf⟩ := hf
      refine V.getI (pc := 119) C kX9 (k := 23) (by decide) wd_1073 h8 dX9_escape_119 ?_
      refine V.goto (pc := 122) (t := 144) C dX9_escape_122 (by decide) ?_
      obtain ⟨f1, f2⟩ := fin2 hf
      clear hf
      subst f1
      subst f2
      exact V.iret (pc := 144) C rfl dX9_escape_144
    replace hf := ite_t c4 hf
    refine V.aload_n (pc := 105) C dX9_escape_105 0 rfl ?_
    replace hf := ob_some hf
    obtain ⟨x9, h10, hf⟩ := hf
    refine V.getI (pc := 106) C kX9 (k := 24) (by decide) wd_1074 h10 dX9_escape_106 ?_
    refine V.goto (pc := 109) (t := 144) C dX9_escape_109 (by decide) ?_
    obtain ⟨f1, f2⟩ := fin2 hf
    clear hf
    subst f1
    subst f2
    exact V.iret (pc := 144) C rfl dX9_escape_144
  replace hf := ite_f c3 hf
  refine V.bipush (pc := 97) C dX9_escape_97 (v := (-2 : Int32)) (by decide) ?_
  obtain ⟨f1, f2⟩ := fin2 hf
  clear hf
  subst f1
  subst f2
  exact V.iret (pc := 99) C rfl dX9_escape_99
def fX9_escape_41  : Nat → PH → Nat → Int32 → Int32 → Int32 → Int32 → Int32 → Int32 → Option (Int32 × PH)
  | 0, _, _, _, _, _, _, _, _ => none
  | n + 1, g, v0, v1, v2, v3, v4, v5, v6 =>
  (fX9_placements g v0 v2).bind fun q1 =>
  (if q1.1 ≤ v6 then (fX9_escape_88 q1.2 v0 v4 v5) else
  (if 0 ≤ v5 then (fX9_escape_88 q1.2 v0 v4 v5) else
  ((fX9_laysPlace q1.2 v0 v2 v6).bind fun q5 =>
  (if v3 = 0 then (fX9_escape_74 (fX9_escape_41 n) q5.2 v0 v1 v2 v3 v4 v6) else
  ((fX9_isNear q5.2 v0).bind fun q8 =>
  (if q8.1 = 0 then (fX9_escape_82 (fX9_escape_41 n) q8.2 v0 v1 v2 v3 v4 v5 v6) else
  (fX9_escape_74 (fX9_escape_41 n) q8.2 v0 v1 v2 v3 v4 v6)))))))
set_option maxHeartbeats 4000000 in
set_option maxRecDepth 100000 in
theorem bX9_escape_41 {K : HK} {E : HE} {r : Int32} {g' : PH}  (C : VC K E 7 cX9_escape RX9 (some .int))  : ∀ (n : Nat) (g : PH) (v0 : Nat) (v1 : Int32) (v2 : Int32) (v3 : Int32) (v4 : Int32) (v5 : Int32) (v6 : Int32), fX9_escape_41  n g v0 v1 v2 v3 v4 v5 v6 = some (r, g') → V K E (hRm 9 216 0 0) 7 (hZ K E (some (.int r)) g' 0 0) 0 0 (kS K) g 41 [(0, .ref v0), (1, .int v1), (2, .int v2), (3, .int v3), (4, .int v4), (5, .int v5), (6, .int v6)] [] := by
  intro n
  induction n with
  | zero =>
    intro g v0 v1 v2 v3 v4 v5 v6 hf
    rw [fX9_escape_41] at hf
    cases hf
  | succ n ih =>
    intro g v0 v1 v2 v3 v4 v5 v6 hf
    rw [fX9_escape_41] at hf
    refine V.iload (pc := 41) C dX9_escape_41 6 rfl ?_
    refine V.aload_n (pc := 43) C dX9_escape_43 0 rfl ?_
    refine V.iload_n (pc := 44) C dX9_escape_44 2 rfl ?_
    replace hf := ob_some hf
    obtain ⟨q1, h2, hf⟩ := hf
    refine V.callV0i (pc := 45) C hyX9_placements wd_1279 (mX9_placements (r := q1.1) (g' := q1.2) K.2.1 E (kS K) h2) rfl rfl rfl (oX9_placements h2) ⟨Nat.le_of_ble_eq_true rfl, Nat.le_of_ble_eq_true rfl⟩ (Nat.le_of_ble_eq_true rfl) dX9_escape_45 ⟨Nat.zero_le _, Nat.zero_le _⟩ rfl ?_
    refine V.icmp_ge (pc := 48) (t := 88) C dX9_escape_48 (by decide) (fun c3 => ?_) (fun c3 => ?_)
    · replace hf := ite_t c3 hf
      refine V.sub (L' := [(0, .ref v0), (4, .int v4), (5, .int v5)]) [0, 4, 5] rfl ?_
      exact bX9_escape_88 C  hf
    replace hf := ite_f c3 hf
    refine V.iload (pc := 51) C dX9_escape_51 5 rfl ?_
    refine V.if_ge (pc := 53) (t := 88) C dX9_escape_53 (by decide) (fun c4 => ?_) (fun c4 => ?_)
    · replace hf := ite_t c4 hf
      refine V.sub (L' := [(0, .ref v0), (4, .int v4), (5, .int v5)]) [0, 4, 5] rfl ?_
      exact bX9_escape_88 C  hf
    replace hf := ite_f c4 hf
    refine V.aload_n (pc := 56) C dX9_escape_56 0 rfl ?_
    refine V.iload_n (pc := 57) C dX9_escape_57 2 rfl ?_
    refine V.iload (pc := 58) C dX9_escape_58 6 rfl ?_
    replace hf := ob_some hf
    obtain ⟨q5, h6, hf⟩ := hf
    refine V.callV0v (pc := 60) C hyX9_laysPlace wd_1313 (mX9_laysPlace (r := q5.1) (g' := q5.2) K.2.1 E (kS K) h6) rfl rfl rfl (oX9_laysPlace h6) ⟨Nat.le_of_ble_eq_true rfl, Nat.le_of_ble_eq_true rfl⟩ (Nat.le_of_ble_eq_true rfl) dX9_escape_60 ⟨Nat.zero_le _, Nat.zero_le _⟩ rfl ?_
    refine V.iload_n (pc := 63) C dX9_escape_63 3 rfl ?_
    refine V.if_eq (pc := 64) (t := 74) C dX9_escape_64 (by decide) (fun c7 => ?_) (fun c7 => ?_)
    · replace hf := ite_t c7 hf
      refine V.sub (L' := [(0, .ref v0), (1, .int v1), (2, .int v2), (3, .int v3), (4, .int v4), (6, .int v6)]) [0, 1, 2, 3, 4, 6] rfl ?_
      exact bX9_escape_74 C ih hf
    replace hf := ite_f c7 hf
    refine V.aload_n (pc := 67) C dX9_escape_67 0 rfl ?_
    replace hf := ob_some hf
    obtain ⟨q8, h9, hf⟩ := hf
    refine V.callV0i (pc := 68) C hyX9_isNear wd_1317 (mX9_isNear (r := q8.1) (g' := q8.2) K.2.1 E (kS K) h9) rfl rfl rfl (oX9_isNear h9) ⟨Nat.le_of_ble_eq_true rfl, Nat.le_of_ble_eq_true rfl⟩ (Nat.le_of_ble_eq_true rfl) dX9_escape_68 ⟨Nat.zero_le _, Nat.zero_le _⟩ rfl ?_
    refine V.if_eq (pc := 71) (t := 82) C dX9_escape_71 (by decide) (fun c10 => ?_) (fun c10 => ?_)
    · replace hf := ite_t c10 hf
      refine V.sub (L' := [(0, .ref v0), (1, .int v1), (2, .int v2), (3, .int v3), (4, .int v4), (5, .int v5), (6, .int v6)]) [0, 1, 2, 3, 4, 5, 6] rfl ?_
      exact bX9_escape_82 C ih hf
    replace hf := ite_f c10 hf
    refine V.sub (L' := [(0, .ref v0), (1, .int v1), (2, .int v2), (3, .int v3), (4, .int v4), (6, .int v6)]) [0, 1, 2, 3, 4, 6] rfl ?_
    exact bX9_escape_74 C ih hf
def fX9_escape (g : PH) (a0 : Nat) (a1 : Int32) (a2 : Int32) (a3 : Int32) (a4 : Int32) : Option (Int32 × PH) :=
  okb (isO g a0 9) ((fX9_isMarch g a0 a1).bind fun q1 =>
  (if q1.1 = 0 then (some ((-1 : Int32), q1.2)) else
  ((fX9_isKind q1.2 a0 a2).bind fun q4 =>
  (if q4.1 = 0 then (some ((-1 : Int32), q4.2)) else
  ((fX9_isIn q4.2 a4.toInt64 (0 : Int64) (3 : Int64)).bind fun q7 =>
  (if q7.1 = 0 then (some ((-1 : Int32), q7.2)) else
  ((fX9_keepsAside q7.2 a0).bind fun q10 =>
  (fX9_escape_41 FUEL q10.2 a0 a1 a2 a3 a4 (-1 : Int32) (0 : Int32)))))))))
theorem oX9_escape {g : PH} {a0 : Nat} {a1 : Int32} {a2 : Int32} {a3 : Int32} {a4 : Int32} {q : (Int32 × PH)} (h : fX9_escape g a0 a1 a2 a3 a4 = some q) : isO g a0 9 = true := by unfold fX9_escape at h; exact (okb_some h).1
theorem hyX9_escape : hMet yX9_escape RX9 cX9_escape 7 (some .int) 4 := ⟨wd_1395, wd_1393, wd_1394, wd_7, rfl, by decide +kernel, by decide +kernel, by decide +kernel⟩
set_option maxHeartbeats 4000000 in
set_option maxRecDepth 100000 in
theorem mX9_escape (l : Launch) (E : HE) (sz : Nat) {g g' : PH} {a0 : Nat} {a1 : Int32} {a2 : Int32} {a3 : Int32} {a4 : Int32} {r : Int32} (hf : fX9_escape g a0 a1 a2 a3 a4 = some (r, g')) : hM l E yX9_escape cX9_escape 7 (some .int) 9 216 0 0 sz g [.ref a0, .int a1, .int a2, .int a3, .int a4] (some (.int r)) g' := by
  refine hM.of (by decide) (Nat.le_of_ble_eq_true rfl) (fun K hl C hin hsz => ?_)
  subst hl
  subst hsz
  have C : VC K E 7 cX9_escape RX9 (some .int) := C
  unfold fX9_escape at hf
  replace hf := okb_some hf
  obtain ⟨ho, hf⟩ := hf
  refine V.start (L' := [(0, .ref a0), (1, .int a1), (2, .int a2), (3, .int a3), (4, .int a4)]) rfl ?_
  refine V.aload_n (pc := 0) C dX9_escape_0 0 rfl ?_
  refine V.iload_n (pc := 1) C dX9_escape_1 1 rfl ?_
  replace hf := ob_some hf
  obtain ⟨q1, h2, hf⟩ := hf
  refine V.callV0i (pc := 2) C hyX9_isMarch wd_1287 (mX9_isMarch (r := q1.1) (g' := q1.2) K.2.1 E (kS K) h2) rfl rfl rfl (oX9_isMarch h2) ⟨Nat.le_of_ble_eq_true rfl, Nat.le_of_ble_eq_true rfl⟩ (Nat.le_of_ble_eq_true rfl) dX9_escape_2 ⟨Nat.zero_le _, Nat.zero_le _⟩ rfl ?_
  refine V.if_eq (pc := 5) (t := 29) C dX9_escape_5 (by decide) (fun c3 => ?_) (fun c3 => ?_)
  · replace hf := ite_t c3 hf
    refine V.iconst (pc := 29) C dX9_escape_29 (v := (-1 : Int32)) (by decide) ?_
    obtain ⟨f1, f2⟩ := fin2 hf
    clear hf
    subst f1
    subst f2
    exact V.iret (pc := 30) C rfl dX9_escape_30
  replace hf := ite_f c3 hf
  refine V.aload_n (pc := 8) C dX9_escape_8 0 rfl ?_
  refine V.iload_n (pc := 9) C dX9_escape_9 2 rfl ?_
  replace hf := ob_some hf
  obtain ⟨q4, h5, hf⟩ := hf
  refine V.callV0i (pc := 10) C hyX9_isKind wd_1270 (mX9_isKind (r := q4.1) (g' := q4.2) K.2.1 E (kS K) h5) rfl rfl rfl (oX9_isKind h5) ⟨Nat.le_of_ble_eq_true rfl, Nat.le_of_ble_eq_true rfl⟩ (Nat.le_of_ble_eq_true rfl) dX9_escape_10 ⟨Nat.zero_le _, Nat.zero_le _⟩ rfl ?_
  refine V.if_eq (pc := 13) (t := 29) C dX9_escape_13 (by decide) (fun c6 => ?_) (fun c6 => ?_)
  · replace hf := ite_t c6 hf
    refine V.iconst (pc := 29) C dX9_escape_29 (v := (-1 : Int32)) (by decide) ?_
    obtain ⟨f1, f2⟩ := fin2 hf
    clear hf
    subst f1
    subst f2
    exact V.iret (pc := 30) C rfl dX9_escape_30
  replace hf := ite_f c6 hf
  refine V.iload (pc := 16) C dX9_escape_16 4 rfl ?_
  refine V.i2l (pc := 18) C dX9_escape_18 ?_
  refine V.lconst (pc := 19) C dX9_escape_19 (v := (0 : Int64)) (by decide) ?_
  refine V.ldc2 (pc := 20) C wd_1274 dX9_escape_20 ?_
  replace hf := ob_some hf
  obtain ⟨q7, h8, hf⟩ := hf
  refine V.callS0i (pc := 23) C hyX9_isIn wd_1182 (mX9_isIn (r := q7.1) (g' := q7.2) K.2.1 E (kS K) h8) rfl ⟨Nat.le_of_ble_eq_true rfl, Nat.le_of_ble_eq_true rfl⟩ (Nat.le_of_ble_eq_true rfl) dX9_escape_23 ⟨Nat.zero_le _, Nat.zero_le _⟩ rfl ?_
  refine V.if_ne (pc := 26) (t := 31) C dX9_escape_26 (by decide) (fun c9 => ?_) (fun c9 => ?_)
  · replace hf := ite_f c9 hf
    refine V.aload_n (pc := 31) C dX9_escape_31 0 rfl ?_
    replace hf := ob_some hf
    obtain ⟨q10, h11, hf⟩ := hf
    refine V.callV0v (pc := 32) C hyX9_keepsAside wd_1309 (mX9_keepsAside (r := q10.1) (g' := q10.2) K.2.1 E (kS K) h11) rfl rfl rfl (oX9_keepsAside h11) ⟨Nat.le_of_ble_eq_true rfl, Nat.le_of_ble_eq_true rfl⟩ (Nat.le_of_ble_eq_true rfl) dX9_escape_32 ⟨Nat.zero_le _, Nat.zero_le _⟩ rfl ?_
    refine V.iconst (pc := 35) C dX9_escape_35 (v := (-1 : Int32)) (by decide) ?_
    refine V.istore (pc := 36) (L' := [(5, .int (-1 : Int32)), (0, .ref a0), (1, .int a1), (2, .int a2), (3, .int a3), (4, .int a4)]) C dX9_escape_36 (by decide) rfl ?_
    refine V.iconst (pc := 38) C dX9_escape_38 (v := (0 : Int32)) (by decide) ?_
    refine V.istore (pc := 39) (L' := [(6, .int (0 : Int32)), (5, .int (-1 : Int32)), (0, .ref a0), (1, .int a1), (2, .int a2), (3, .int a3), (4, .int a4)]) C dX9_escape_39 (by decide) rfl ?_
    refine V.sub (L' := [(0, .ref a0), (1, .int a1), (2, .int a2), (3, .int a3), (4, .int a4), (5, .int (-1 : Int32)), (6, .int (0 : Int32))]) [2, 3, 4, 5, 6, 1, 0] rfl ?_
    exact bX9_escape_41 C  _ _ _ _ _ _ _ _ _ hf
  replace hf := ite_t c9 hf
  refine V.iconst (pc := 29) C dX9_escape_29 (v := (-1 : Int32)) (by decide) ?_
  obtain ⟨f1, f2⟩ := fin2 hf
  clear hf
  subst f1
  subst f2
  exact V.iret (pc := 30) C rfl dX9_escape_30
theorem dX9_beginsTwo_0 : decode cX9_beginsTwo 0 = .ok (.aload_n 0, 1) := by decide +kernel
theorem dX9_beginsTwo_1 : decode cX9_beginsTwo 1 = .ok (.getfield 180, 3) := by decide +kernel
theorem dX9_beginsTwo_4 : decode cX9_beginsTwo 4 = .ok (.istore_n 1, 1) := by decide +kernel
theorem dX9_beginsTwo_5 : decode cX9_beginsTwo 5 = .ok (.aload_n 0, 1) := by decide +kernel
theorem dX9_beginsTwo_6 : decode cX9_beginsTwo 6 = .ok (.invokevirtual 270, 3) := by decide +kernel
theorem dX9_beginsTwo_9 : decode cX9_beginsTwo 9 = .ok (.aload_n 0, 1) := by decide +kernel
theorem dX9_beginsTwo_10 : decode cX9_beginsTwo 10 = .ok (.iconst 2, 1) := by decide +kernel
theorem dX9_beginsTwo_11 : decode cX9_beginsTwo 11 = .ok (.putfield 180, 3) := by decide +kernel
theorem dX9_beginsTwo_14 : decode cX9_beginsTwo 14 = .ok (.iconst 0, 1) := by decide +kernel
theorem dX9_beginsTwo_15 : decode cX9_beginsTwo 15 = .ok (.istore_n 2, 1) := by decide +kernel
theorem dX9_beginsTwo_16 : decode cX9_beginsTwo 16 = .ok (.iload_n 2, 1) := by decide +kernel
theorem dX9_beginsTwo_17 : decode cX9_beginsTwo 17 = .ok (.bipush 6, 2) := by decide +kernel
theorem dX9_beginsTwo_19 : decode cX9_beginsTwo 19 = .ok (.if_icmp .ge 18, 3) := by decide +kernel
theorem dX9_beginsTwo_22 : decode cX9_beginsTwo 22 = .ok (.aload_n 0, 1) := by decide +kernel
theorem dX9_beginsTwo_23 : decode cX9_beginsTwo 23 = .ok (.getfield 32, 3) := by decide +kernel
theorem dX9_beginsTwo_26 : decode cX9_beginsTwo 26 = .ok (.iconst 4, 1) := by decide +kernel
theorem dX9_beginsTwo_27 : decode cX9_beginsTwo 27 = .ok (.iload_n 2, 1) := by decide +kernel
theorem dX9_beginsTwo_28 : decode cX9_beginsTwo 28 = .ok (.iadd, 1) := by decide +kernel
theorem dX9_beginsTwo_29 : decode cX9_beginsTwo 29 = .ok (.iload_n 2, 1) := by decide +kernel
theorem dX9_beginsTwo_30 : decode cX9_beginsTwo 30 = .ok (.iastore, 1) := by decide +kernel
theorem dX9_beginsTwo_31 : decode cX9_beginsTwo 31 = .ok (.iinc 2 1, 3) := by decide +kernel
theorem dX9_beginsTwo_34 : decode cX9_beginsTwo 34 = .ok (.goto (-18), 3) := by decide +kernel
theorem dX9_beginsTwo_37 : decode cX9_beginsTwo 37 = .ok (.iload_n 1, 1) := by decide +kernel
theorem dX9_beginsTwo_38 : decode cX9_beginsTwo 38 = .ok (.ireturn, 1) := by decide +kernel
def fX9_beginsTwo_16  : Nat → PH → Nat → Int32 → Int32 → Option (Int32 × PH)
  | 0, _, _, _, _ => none
  | n + 1, g, v0, v1, v2 =>
  if (6 : Int32) ≤ v2 then (some (v1, g)) else
  ((getR g v0 9 16).bind fun p2 =>
  ((stI g p2 0 ((4 : Int32) + v2) v2).bind fun g4 =>
  (fX9_beginsTwo_16 n g4 v0 v1 (v2 + (1 : Int32)))))
set_option maxHeartbeats 4000000 in
set_option maxRecDepth 100000 in
theorem bX9_beginsTwo_16 {K : HK} {E : HE} {r : Int32} {g' : PH}  (C : VC K E 3 cX9_beginsTwo RX9 (some .int))  : ∀ (n : Nat) (g : PH) (v0 : Nat) (v1 : Int32) (v2 : Int32), fX9_beginsTwo_16  n g v0 v1 v2 = some (r, g') → V K E (hRm 1 21 0 0) 3 (hZ K E (some (.int r)) g' 0 0) 0 0 (kS K) g 16 [(0, .ref v0), (1, .int v1), (2, .int v2)] [] := by
  intro n
  induction n with
  | zero =>
    intro g v0 v1 v2 hf
    rw [fX9_beginsTwo_16] at hf
    cases hf
  | succ n ih =>
    intro g v0 v1 v2 hf
    rw [fX9_beginsTwo_16] at hf
    refine V.iload_n (pc := 16) C dX9_beginsTwo_16 2 rfl ?_
    refine V.bipush (pc := 17) C dX9_beginsTwo_17 (v := (6 : Int32)) (by decide) ?_
    refine V.icmp_ge (pc := 19) (t := 37) C dX9_beginsTwo_19 (by decide) (fun c1 => ?_) (fun c1 => ?_)
    · replace hf := ite_t c1 hf
      refine V.iload_n (pc := 37) C dX9_beginsTwo_37 1 rfl ?_
      obtain ⟨f1, f2⟩ := fin2 hf
      clear hf
      subst f1
      subst f2
      exact V.iret (pc := 38) C rfl dX9_beginsTwo_38
    replace hf := ite_f c1 hf
    refine V.aload_n (pc := 22) C dX9_beginsTwo_22 0 rfl ?_
    replace hf := ob_some hf
    obtain ⟨p2, h3, hf⟩ := hf
    refine V.getR (pc := 23) C kX9 (k := 16) (by decide) wd_1066 h3 dX9_beginsTwo_23 ?_
    refine V.iconst (pc := 26) C dX9_beginsTwo_26 (v := (4 : Int32)) (by decide) ?_
    refine V.iload_n (pc := 27) C dX9_beginsTwo_27 2 rfl ?_
    refine V.iadd (pc := 28) C dX9_beginsTwo_28 ?_
    refine V.iload_n (pc := 29) C dX9_beginsTwo_29 2 rfl ?_
    replace hf := ob_some hf
    obtain ⟨g4, h5, hf⟩ := hf
    refine V.iast (pc := 30) C h5 dX9_beginsTwo_30 ?_
    refine V.iinc (pc := 31) (v := (v2 + (1 : Int32))) (L' := [(2, .int (v2 + (1 : Int32))), (0, .ref v0), (1, .int v1)]) C dX9_beginsTwo_31 2 rfl rfl (by decide) rfl ?_
    refine V.goto (pc := 34) (t := 16) C dX9_beginsTwo_34 (by decide) ?_
    refine V.sub (L' := [(0, .ref v0), (1, .int v1), (2, .int (v2 + (1 : Int32)))]) [1, 2, 0] rfl ?_
    exact ih _ _ _ _ hf
def fX9_beginsTwo (g : PH) (a0 : Nat) : Option (Int32 × PH) :=
  okb (isO g a0 9) ((getI g a0 9 15).bind fun x1 =>
  ((fX9_keepsAside g a0).bind fun q3 =>
  ((putV q3.2 a0 9 15 (.int (2 : Int32))).bind fun g5 =>
  (fX9_beginsTwo_16 FUEL g5 a0 x1 (0 : Int32)))))
theorem oX9_beginsTwo {g : PH} {a0 : Nat} {q : (Int32 × PH)} (h : fX9_beginsTwo g a0 = some q) : isO g a0 9 = true := by unfold fX9_beginsTwo at h; exact (okb_some h).1
theorem hyX9_beginsTwo : hMet yX9_beginsTwo RX9 cX9_beginsTwo 3 (some .int) 0 := ⟨wd_1403, wd_1402, ws_93, wd_7, rfl, by decide +kernel, by decide +kernel, by decide +kernel⟩
set_option maxHeartbeats 4000000 in
set_option maxRecDepth 100000 in
theorem mX9_beginsTwo (l : Launch) (E : HE) (sz : Nat) {g g' : PH} {a0 : Nat} {r : Int32} (hf : fX9_beginsTwo g a0 = some (r, g')) : hM l E yX9_beginsTwo cX9_beginsTwo 3 (some .int) 1 21 0 0 sz g [.ref a0] (some (.int r)) g' := by
  refine hM.of (by decide) (Nat.le_of_ble_eq_true rfl) (fun K hl C hin hsz => ?_)
  subst hl
  subst hsz
  have C : VC K E 3 cX9_beginsTwo RX9 (some .int) := C
  unfold fX9_beginsTwo at hf
  replace hf := okb_some hf
  obtain ⟨ho, hf⟩ := hf
  refine V.start (L' := [(0, .ref a0)]) rfl ?_
  refine V.aload_n (pc := 0) C dX9_beginsTwo_0 0 rfl ?_
  replace hf := ob_some hf
  obtain ⟨x1, h2, hf⟩ := hf
  refine V.getI (pc := 1) C kX9 (k := 15) (by decide) wd_1065 h2 dX9_beginsTwo_1 ?_
  refine V.istore_n (pc := 4) (L' := [(1, .int x1), (0, .ref a0)]) C dX9_beginsTwo_4 (by decide) rfl ?_
  refine V.aload_n (pc := 5) C dX9_beginsTwo_5 1 rfl ?_
  replace hf := ob_some hf
  obtain ⟨q3, h4, hf⟩ := hf
  refine V.callV0v (pc := 6) C hyX9_keepsAside wd_1309 (mX9_keepsAside (r := q3.1) (g' := q3.2) K.2.1 E (kS K) h4) rfl rfl rfl (oX9_keepsAside h4) ⟨Nat.le_of_ble_eq_true rfl, Nat.le_of_ble_eq_true rfl⟩ (Nat.le_of_ble_eq_true rfl) dX9_beginsTwo_6 ⟨Nat.zero_le _, Nat.zero_le _⟩ rfl ?_
  refine V.aload_n (pc := 9) C dX9_beginsTwo_9 1 rfl ?_
  refine V.iconst (pc := 10) C dX9_beginsTwo_10 (v := (2 : Int32)) (by decide) ?_
  replace hf := ob_some hf
  obtain ⟨g5, h6, hf⟩ := hf
  refine V.putX (pc := 11) C kX9 (k := 15) (by decide) wd_1065 rfl rfl rfl h6 dX9_beginsTwo_11 ?_
  refine V.iconst (pc := 14) C dX9_beginsTwo_14 (v := (0 : Int32)) (by decide) ?_
  refine V.istore_n (pc := 15) (L' := [(2, .int (0 : Int32)), (1, .int x1), (0, .ref a0)]) C dX9_beginsTwo_15 (by decide) rfl ?_
  refine V.sub (L' := [(0, .ref a0), (1, .int x1), (2, .int (0 : Int32))]) [2, 1, 0] rfl ?_
  exact bX9_beginsTwo_16 C  _ _ _ _ _ hf
