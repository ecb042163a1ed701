theorem dX8_log_0 : decode cX8_log 0 = .ok (.iload_n 1, 1) := by decide +kernel
theorem dX8_log_1 : decode cX8_log 1 = .ok (.ifCond .lt 12, 3) := by decide +kernel
theorem dX8_log_4 : decode cX8_log 4 = .ok (.iload_n 2, 1) := by decide +kernel
theorem dX8_log_5 : decode cX8_log 5 = .ok (.ifCond .lt 8, 3) := by decide +kernel
theorem dX8_log_8 : decode cX8_log 8 = .ok (.iload_n 2, 1) := by decide +kernel
theorem dX8_log_9 : decode cX8_log 9 = .ok (.iconst 1, 1) := by decide +kernel
theorem dX8_log_10 : decode cX8_log 10 = .ok (.if_icmp .le 5, 3) := by decide +kernel
theorem dX8_log_13 : decode cX8_log 13 = .ok (.iconst (-1), 1) := by decide +kernel
theorem dX8_log_14 : decode cX8_log 14 = .ok (.ireturn, 1) := by decide +kernel
theorem dX8_log_15 : decode cX8_log 15 = .ok (.iload_n 1, 1) := by decide +kernel
theorem dX8_log_16 : decode cX8_log 16 = .ok (.aload_n 0, 1) := by decide +kernel
theorem dX8_log_17 : decode cX8_log 17 = .ok (.getfield 38, 3) := by decide +kernel
theorem dX8_log_20 : decode cX8_log 20 = .ok (.getfield 226, 3) := by decide +kernel
theorem dX8_log_23 : decode cX8_log 23 = .ok (.if_icmp .lt 6, 3) := by decide +kernel
theorem dX8_log_26 : decode cX8_log 26 = .ok (.bipush (-2), 2) := by decide +kernel
theorem dX8_log_28 : decode cX8_log 28 = .ok (.ireturn, 1) := by decide +kernel
theorem dX8_log_29 : decode cX8_log 29 = .ok (.iload_n 2, 1) := by decide +kernel
theorem dX8_log_30 : decode cX8_log 30 = .ok (.ifCond .ne 14, 3) := by decide +kernel
theorem dX8_log_33 : decode cX8_log 33 = .ok (.aload_n 0, 1) := by decide +kernel
theorem dX8_log_34 : decode cX8_log 34 = .ok (.getfield 38, 3) := by decide +kernel
theorem dX8_log_37 : decode cX8_log 37 = .ok (.iload_n 1, 1) := by decide +kernel
theorem dX8_log_38 : decode cX8_log 38 = .ok (.invokevirtual 229, 3) := by decide +kernel
theorem dX8_log_41 : decode cX8_log 41 = .ok (.goto 11, 3) := by decide +kernel
theorem dX8_log_44 : decode cX8_log 44 = .ok (.aload_n 0, 1) := by decide +kernel
theorem dX8_log_45 : decode cX8_log 45 = .ok (.getfield 38, 3) := by decide +kernel
theorem dX8_log_48 : decode cX8_log 48 = .ok (.iload_n 1, 1) := by decide +kernel
theorem dX8_log_49 : decode cX8_log 49 = .ok (.invokevirtual 232, 3) := by decide +kernel
theorem dX8_log_52 : decode cX8_log 52 = .ok (.ireturn, 1) := by decide +kernel
def fX8_log (g : PH) (a0 : Nat) (a1 : Int32) (a2 : Int32) : Option (Int32 × PH) :=
  okb (isO g a0 8) (if a1 < 0 then (some ((-1 : Int32), g)) else
  (if a2 < 0 then (some ((-1 : Int32), g)) else
  (if a2 ≤ (1 : Int32) then ((getR g a0 8 5).bind fun p4 =>
  ((getI g p4 3 9).bind fun x6 =>
  (if a1 < x6 then (if a2 = 0 then ((getR g a0 8 5).bind fun p14 =>
  ((fX3_loggedNumber g p14 a1).bind fun q16 =>
  (some (q16.1, q16.2)))) else
  ((getR g a0 8 5).bind fun p10 =>
  ((fX3_loggedAddress g p10 a1).bind fun q12 =>
  (some (q12.1, q12.2))))) else
  (some ((-2 : Int32), g))))) else
  (some ((-1 : Int32), g)))))
theorem oX8_log {g : PH} {a0 : Nat} {a1 : Int32} {a2 : Int32} {q : (Int32 × PH)} (h : fX8_log g a0 a1 a2 = some q) : isO g a0 8 = true := by unfold fX8_log at h; exact (okb_some h).1
theorem hyX8_log : hMet yX8_log RX8 cX8_log 3 (some .int) 2 := ⟨wd_920, wd_918, wd_919, wd_1, rfl, by decide +kernel, by decide +kernel, by decide +kernel⟩
set_option maxHeartbeats 4000000 in
set_option maxRecDepth 100000 in
theorem mX8_log (l : Launch) (E : HE) (sz : Nat) {g g' : PH} {a0 : Nat} {a1 : Int32} {a2 : Int32} {r : Int32} (hf : fX8_log g a0 a1 a2 = some (r, g')) : hM l E yX8_log cX8_log 3 (some .int) 1 21 0 0 sz g [.ref a0, .int a1, .int a2] (some (.int r)) g' := by
  refine hM.of (by decide) (Nat.le_of_ble_eq_true rfl) (fun K hl C hin hsz => ?_)
  subst hl
  subst hsz
  have C : VC K E 3 cX8_log RX8 (some .int) := C
  unfold fX8_log at hf
  replace hf := okb_some hf
  obtain ⟨ho, hf⟩ := hf
  refine V.start (L' := [(0, .ref a0), (1, .int a1), (2, .int a2)]) rfl ?_
  refine V.iload_n (pc := 0) C dX8_log_0 1 rfl ?_
  refine V.if_lt (pc := 1) (t := 13) C dX8_log_1 (by decide) (fun c1 => ?_) (fun c1 => ?_)
  · replace hf := ite_t c1 hf
    refine V.iconst (pc := 13) C dX8_log_13 (v := (-1 : Int32)) (by decide) ?_
    obtain ⟨f1, f2⟩ := fin2 hf
    clear hf
    subst f1
    subst f2
    exact V.iret (pc := 14) C rfl dX8_log_14
  replace hf := ite_f c1 hf
  refine V.iload_n (pc := 4) C dX8_log_4 2 rfl ?_
  refine V.if_lt (pc := 5) (t := 13) C dX8_log_5 (by decide) (fun c2 => ?_) (fun c2 => ?_)
  · replace hf := ite_t c2 hf
    refine V.iconst (pc := 13) C dX8_log_13 (v := (-1 : Int32)) (by decide) ?_
    obtain ⟨f1, f2⟩ := fin2 hf
    clear hf
    subst f1
    subst f2
    exact V.iret (pc := 14) C rfl dX8_log_14
  replace hf := ite_f c2 hf
  refine V.iload_n (pc := 8) C dX8_log_8 2 rfl ?_
  refine V.iconst (pc := 9) C dX8_log_9 (v := (1 : Int32)) (by decide) ?_
  refine V.icmp_le (pc := 10) (t := 15) C dX8_log_10 (by decide) (fun c3 => ?_) (fun c3 => ?_)
  · replace hf := ite_t c3 hf
    refine V.iload_n (pc := 15) C dX8_log_15 1 rfl ?_
    refine V.aload_n (pc := 16) C dX8_log_16 0 rfl ?_
    replace hf := ob_some hf
    obtain ⟨p4, h5, hf⟩ := hf
    refine V.getR (pc := 17) C kX8 (k := 5) (by decide) wd_193 h5 dX8_log_17 ?_
    replace hf := ob_some hf
    obtain ⟨x6, h7, hf⟩ := hf
    refine V.getI (pc := 20) C kX3 (k := 9) (by decide) wd_78 h7 dX8_log_20 ?_
    refine V.icmp_lt (pc := 23) (t := 29) C dX8_log_23 (by decide) (fun c8 => ?_) (fun c8 => ?_)
    · replace hf := ite_t c8 hf
      refine V.iload_n (pc := 29) C dX8_log_29 2 rfl ?_
      refine V.if_ne (pc := 30) (t := 44) C dX8_log_30 (by decide) (fun c9 => ?_) (fun c9 => ?_)
      · replace hf := ite_f c9 hf
        refine V.aload_n (pc := 44) C dX8_log_44 0 rfl ?_
        replace hf := ob_some hf
        obtain ⟨p10, h11, hf⟩ := hf
        refine V.getR (pc := 45) C kX8 (k := 5) (by decide) wd_193 h11 dX8_log_45 ?_
        refine V.iload_n (pc := 48) C dX8_log_48 1 rfl ?_
        replace hf := ob_some hf
        obtain ⟨q12, h13, hf⟩ := hf
        refine V.callV0i (pc := 49) C hyX3_loggedAddress wd_925 (mX3_loggedAddress (r := q12.1) (g' := q12.2) K.2.1 E (kS K) h13) rfl rfl rfl (oX3_loggedAddress h13) ⟨Nat.le_of_ble_eq_true rfl, Nat.le_of_ble_eq_true rfl⟩ (Nat.le_of_ble_eq_true rfl) dX8_log_49 ⟨Nat.zero_le _, Nat.zero_le _⟩ rfl ?_
        obtain ⟨f1, f2⟩ := fin2 hf
        clear hf
        subst f1
        subst f2
        exact V.iret (pc := 52) C rfl dX8_log_52
      replace hf := ite_t c9 hf
      refine V.aload_n (pc := 33) C dX8_log_33 0 rfl ?_
      replace hf := ob_some hf
      obtain ⟨p14, h15, hf⟩ := hf
      refine V.getR (pc := 34) C kX8 (k := 5) (by decide) wd_193 h15 dX8_log_34 ?_
      refine V.iload_n (pc := 37) C dX8_log_37 1 rfl ?_
      replace hf := ob_some hf
      obtain ⟨q16, h17, hf⟩ := hf
      refine V.callV0i (pc := 38) C hyX3_loggedNumber wd_921 (mX3_loggedNumber (r := q16.1) (g' := q16.2) K.2.1 E (kS K) h17) rfl rfl rfl (oX3_loggedNumber h17) ⟨Nat.le_of_ble_eq_true rfl, Nat.le_of_ble_eq_true rfl⟩ (Nat.le_of_ble_eq_true rfl) dX8_log_38 ⟨Nat.zero_le _, Nat.zero_le _⟩ rfl ?_
      refine V.goto (pc := 41) (t := 52) C dX8_log_41 (by decide) ?_
      obtain ⟨f1, f2⟩ := fin2 hf
      clear hf
      subst f1
      subst f2
      exact V.iret (pc := 52) C rfl dX8_log_52
    replace hf := ite_f c8 hf
    refine V.bipush (pc := 26) C dX8_log_26 (v := (-2 : Int32)) (by decide) ?_
    obtain ⟨f1, f2⟩ := fin2 hf
    clear hf
    subst f1
    subst f2
    exact V.iret (pc := 28) C rfl dX8_log_28
  replace hf := ite_f c3 hf
  refine V.iconst (pc := 13) C dX8_log_13 (v := (-1 : Int32)) (by decide) ?_
  obtain ⟨f1, f2⟩ := fin2 hf
  clear hf
  subst f1
  subst f2
  exact V.iret (pc := 14) C rfl dX8_log_14
theorem dX8_couldHaveLogged_0 : decode cX8_couldHaveLogged 0 = .ok (.aload_n 1, 1) := by decide +kernel
theorem dX8_couldHaveLogged_1 : decode cX8_couldHaveLogged 1 = .ok (.getfield 101, 3) := by decide +kernel
theorem dX8_couldHaveLogged_4 : decode cX8_couldHaveLogged 4 = .ok (.ifCond .eq 7, 3) := by decide +kernel
theorem dX8_couldHaveLogged_7 : decode cX8_couldHaveLogged 7 = .ok (.iconst 4, 1) := by decide +kernel
theorem dX8_couldHaveLogged_8 : decode cX8_couldHaveLogged 8 = .ok (.goto 4, 3) := by decide +kernel
theorem dX8_couldHaveLogged_11 : decode cX8_couldHaveLogged 11 = .ok (.iconst 2, 1) := by decide +kernel
theorem dX8_couldHaveLogged_12 : decode cX8_couldHaveLogged 12 = .ok (.istore_n 3, 1) := by decide +kernel
theorem dX8_couldHaveLogged_13 : decode cX8_couldHaveLogged 13 = .ok (.iconst 0, 1) := by decide +kernel
theorem dX8_couldHaveLogged_14 : decode cX8_couldHaveLogged 14 = .ok (.istore 4, 2) := by decide +kernel
theorem dX8_couldHaveLogged_16 : decode cX8_couldHaveLogged 16 = .ok (.iload 4, 2) := by decide +kernel
theorem dX8_couldHaveLogged_18 : decode cX8_couldHaveLogged 18 = .ok (.iload_n 3, 1) := by decide +kernel
theorem dX8_couldHaveLogged_19 : decode cX8_couldHaveLogged 19 = .ok (.if_icmp .ge 44, 3) := by decide +kernel
theorem dX8_couldHaveLogged_22 : decode cX8_couldHaveLogged 22 = .ok (.aload_n 0, 1) := by decide +kernel
theorem dX8_couldHaveLogged_23 : decode cX8_couldHaveLogged 23 = .ok (.getfield 52, 3) := by decide +kernel
theorem dX8_couldHaveLogged_26 : decode cX8_couldHaveLogged 26 = .ok (.aload_n 1, 1) := by decide +kernel
theorem dX8_couldHaveLogged_27 : decode cX8_couldHaveLogged 27 = .ok (.aload_n 2, 1) := by decide +kernel
theorem dX8_couldHaveLogged_28 : decode cX8_couldHaveLogged 28 = .ok (.iload 4, 2) := by decide +kernel
theorem dX8_couldHaveLogged_30 : decode cX8_couldHaveLogged 30 = .ok (.aload_n 0, 1) := by decide +kernel
theorem dX8_couldHaveLogged_31 : decode cX8_couldHaveLogged 31 = .ok (.getfield 38, 3) := by decide +kernel
theorem dX8_couldHaveLogged_34 : decode cX8_couldHaveLogged 34 = .ok (.getfield 328, 3) := by decide +kernel
theorem dX8_couldHaveLogged_37 : decode cX8_couldHaveLogged 37 = .ok (.invokevirtual 272, 3) := by decide +kernel
theorem dX8_couldHaveLogged_40 : decode cX8_couldHaveLogged 40 = .ok (.pop, 1) := by decide +kernel
theorem dX8_couldHaveLogged_41 : decode cX8_couldHaveLogged 41 = .ok (.aload_n 0, 1) := by decide +kernel
theorem dX8_couldHaveLogged_42 : decode cX8_couldHaveLogged 42 = .ok (.getfield 38, 3) := by decide +kernel
theorem dX8_couldHaveLogged_45 : decode cX8_couldHaveLogged 45 = .ok (.aload_n 0, 1) := by decide +kernel
theorem dX8_couldHaveLogged_46 : decode cX8_couldHaveLogged 46 = .ok (.getfield 52, 3) := by decide +kernel
theorem dX8_couldHaveLogged_49 : decode cX8_couldHaveLogged 49 = .ok (.invokevirtual 331, 3) := by decide +kernel
theorem dX8_couldHaveLogged_52 : decode cX8_couldHaveLogged 52 = .ok (.ifCond .eq 5, 3) := by decide +kernel
theorem dX8_couldHaveLogged_55 : decode cX8_couldHaveLogged 55 = .ok (.iconst 1, 1) := by decide +kernel
theorem dX8_couldHaveLogged_56 : decode cX8_couldHaveLogged 56 = .ok (.ireturn, 1) := by decide +kernel
theorem dX8_couldHaveLogged_57 : decode cX8_couldHaveLogged 57 = .ok (.iinc 4 1, 3) := by decide +kernel
theorem dX8_couldHaveLogged_60 : decode cX8_couldHaveLogged 60 = .ok (.goto (-44), 3) := by decide +kernel
theorem dX8_couldHaveLogged_63 : decode cX8_couldHaveLogged 63 = .ok (.iconst 0, 1) := by decide +kernel
theorem dX8_couldHaveLogged_64 : decode cX8_couldHaveLogged 64 = .ok (.ireturn, 1) := by decide +kernel
def fX8_couldHaveLogged_16  : Nat → PH → Nat → Nat → Nat → Int32 → Int32 → Option (Int32 × PH)
  | 0, _, _, _, _, _, _ => none
  | n + 1, g, v0, v1, v2, v3, v4 =>
  if v3 ≤ v4 then (some ((0 : Int32), g)) else
  ((getR g v0 8 7).bind fun p2 =>
  ((getR g v0 8 5).bind fun p4 =>
  ((getI g p4 3 7).bind fun x6 =>
  ((fX7_go g p2 v1 v2 v4 x6).bind fun q8 =>
  ((getR q8.2 v0 8 5).bind fun p10 =>
  ((getR q8.2 v0 8 7).bind fun p12 =>
  ((fX3_hasLogOf q8.2 p10 p12).bind fun q14 =>
  (if q14.1 = 0 then (fX8_couldHaveLogged_16 n q14.2 v0 v1 v2 v3 (v4 + (1 : Int32))) else
  (some ((1 : Int32), q14.2))))))))))
set_option maxHeartbeats 4000000 in
set_option maxRecDepth 100000 in
theorem bX8_couldHaveLogged_16 {K : HK} {E : HE} {r : Int32} {g' : PH}  (C : VC K E 5 cX8_couldHaveLogged RX8 (some .boolean))  : ∀ (n : Nat) (g : PH) (v0 : Nat) (v1 : Nat) (v2 : Nat) (v3 : Int32) (v4 : Int32), fX8_couldHaveLogged_16  n g v0 v1 v2 v3 v4 = some (r, g') → V K E (hRm 3 83 0 0) 5 (hZ K E (some (.int r)) g' 0 0) 0 0 (kS K) g 16 [(0, .ref v0), (1, .ref v1), (2, .ref v2), (3, .int v3), (4, .int v4)] [] := by
  intro n
  induction n with
  | zero =>
    intro g v0 v1 v2 v3 v4 hf
    rw [fX8_couldHaveLogged_16] at hf
    cases hf
  | succ n ih =>
    intro g v0 v1 v2 v3 v4 hf
    rw [fX8_couldHaveLogged_16] at hf
    refine V.iload (pc := 16) C dX8_couldHaveLogged_16 4 rfl ?_
    refine V.iload_n (pc := 18) C dX8_couldHaveLogged_18 3 rfl ?_
    refine V.icmp_ge (pc := 19) (t := 63) C dX8_couldHaveLogged_19 (by decide) (fun c1 => ?_) (fun c1 => ?_)
    · replace hf := ite_t c1 hf
      refine V.iconst (pc := 63) C dX8_couldHaveLogged_63 (v := (0 : Int32)) (by decide) ?_
      obtain ⟨f1, f2⟩ := fin2 hf
      clear hf
      subst f1
      subst f2
      exact V.zret (pc := 64) C rfl rfl dX8_couldHaveLogged_64
    replace hf := ite_f c1 hf
    refine V.aload_n (pc := 22) C dX8_couldHaveLogged_22 0 rfl ?_
    replace hf := ob_some hf
    obtain ⟨p2, h3, hf⟩ := hf
    refine V.getR (pc := 23) C kX8 (k := 7) (by decide) wd_195 h3 dX8_couldHaveLogged_23 ?_
    refine V.aload_n (pc := 26) C dX8_couldHaveLogged_26 1 rfl ?_
    refine V.aload_n (pc := 27) C dX8_couldHaveLogged_27 2 rfl ?_
    refine V.iload (pc := 28) C dX8_couldHaveLogged_28 4 rfl ?_
    refine V.aload_n (pc := 30) C dX8_couldHaveLogged_30 0 rfl ?_
    replace hf := ob_some hf
    obtain ⟨p4, h5, hf⟩ := hf
    refine V.getR (pc := 31) C kX8 (k := 5) (by decide) wd_193 h5 dX8_couldHaveLogged_31 ?_
    replace hf := ob_some hf
    obtain ⟨x6, h7, hf⟩ := hf
    refine V.getI (pc := 34) C kX3 (k := 7) (by decide) wd_74 h7 dX8_couldHaveLogged_34 ?_
    replace hf := ob_some hf
    obtain ⟨q8, h9, hf⟩ := hf
    refine V.callV0i (pc := 37) C hyX7_go wd_594 (mX7_go (r := q8.1) (g' := q8.2) K.2.1 E (kS K) h9) rfl rfl rfl (oX7_go h9) ⟨Nat.le_of_ble_eq_true rfl, Nat.le_of_ble_eq_true rfl⟩ (Nat.le_of_ble_eq_true rfl) dX8_couldHaveLogged_37 ⟨Nat.zero_le _, Nat.zero_le _⟩ rfl ?_
    refine V.pop (pc := 40) C dX8_couldHaveLogged_40 rfl ?_
    refine V.aload_n (pc := 41) C dX8_couldHaveLogged_41 0 rfl ?_
    replace hf := ob_some hf
    obtain ⟨p10, h11, hf⟩ := hf
    refine V.getR (pc := 42) C kX8 (k := 5) (by decide) wd_193 h11 dX8_couldHaveLogged_42 ?_
    refine V.aload_n (pc := 45) C dX8_couldHaveLogged_45 0 rfl ?_
    replace hf := ob_some hf
    obtain ⟨p12, h13, hf⟩ := hf
    refine V.getR (pc := 46) C kX8 (k := 7) (by decide) wd_195 h13 dX8_couldHaveLogged_46 ?_
    replace hf := ob_some hf
    obtain ⟨q14, h15, hf⟩ := hf
    refine V.callV0i (pc := 49) C hyX3_hasLogOf wd_972 (mX3_hasLogOf (r := q14.1) (g' := q14.2) K.2.1 E (kS K) h15) rfl rfl rfl (oX3_hasLogOf h15) ⟨Nat.le_of_ble_eq_true rfl, Nat.le_of_ble_eq_true rfl⟩ (Nat.le_of_ble_eq_true rfl) dX8_couldHaveLogged_49 ⟨Nat.zero_le _, Nat.zero_le _⟩ rfl ?_
    refine V.if_eq (pc := 52) (t := 57) C dX8_couldHaveLogged_52 (by decide) (fun c16 => ?_) (fun c16 => ?_)
    · replace hf := ite_t c16 hf
      refine V.iinc (pc := 57) (v := (v4 + (1 : Int32))) (L' := [(4, .int (v4 + (1 : Int32))), (0, .ref v0), (1, .ref v1), (2, .ref v2), (3, .int v3)]) C dX8_couldHaveLogged_57 4 rfl rfl (by decide) rfl ?_
      refine V.goto (pc := 60) (t := 16) C dX8_couldHaveLogged_60 (by decide) ?_
      refine V.sub (L' := [(0, .ref v0), (1, .ref v1), (2, .ref v2), (3, .int v3), (4, .int (v4 + (1 : Int32)))]) [1, 2, 3, 4, 0] rfl ?_
      exact ih _ _ _ _ _ _ hf
    replace hf := ite_f c16 hf
    refine V.iconst (pc := 55) C dX8_couldHaveLogged_55 (v := (1 : Int32)) (by decide) ?_
    obtain ⟨f1, f2⟩ := fin2 hf
    clear hf
    subst f1
    subst f2
    exact V.zret (pc := 56) C rfl rfl dX8_couldHaveLogged_56
def fX8_couldHaveLogged_12  (g : PH) (v0 : Nat) (v1 : Nat) (v2 : Nat) (s0 : Int32) : Option (Int32 × PH) :=
  fX8_couldHaveLogged_16 FUEL g v0 v1 v2 s0 (0 : Int32)
set_option maxHeartbeats 4000000 in
set_option maxRecDepth 100000 in
theorem bX8_couldHaveLogged_12 {K : HK} {E : HE} {r : Int32} {g' : PH}  (C : VC K E 5 cX8_couldHaveLogged RX8 (some .boolean))  {g : PH} {v0 : Nat} {v1 : Nat} {v2 : Nat} {s0 : Int32} (hf : fX8_couldHaveLogged_12  g v0 v1 v2 s0 = some (r, g')) : V K E (hRm 3 83 0 0) 5 (hZ K E (some (.int r)) g' 0 0) 0 0 (kS K) g 12 [(0, .ref v0), (1, .ref v1), (2, .ref v2)] [.int s0] := by
  unfold fX8_couldHaveLogged_12 at hf
  refine V.istore_n (pc := 12) (L' := [(3, .int s0), (0, .ref v0), (1, .ref v1), (2, .ref v2)]) C dX8_couldHaveLogged_12 (by decide) rfl ?_
  refine V.iconst (pc := 13) C dX8_couldHaveLogged_13 (v := (0 : Int32)) (by decide) ?_
  refine V.istore (pc := 14) (L' := [(4, .int (0 : Int32)), (3, .int s0), (0, .ref v0), (1, .ref v1), (2, .ref v2)]) C dX8_couldHaveLogged_14 (by decide) rfl ?_
  refine V.sub (L' := [(0, .ref v0), (1, .ref v1), (2, .ref v2), (3, .int s0), (4, .int (0 : Int32))]) [2, 3, 4, 1, 0] rfl ?_
  exact bX8_couldHaveLogged_16 C  _ _ _ _ _ _ _ hf
def fX8_couldHaveLogged (g : PH) (a0 : Nat) (a1 : Nat) (a2 : Nat) : Option (Int32 × PH) :=
  okb (isO g a0 8) ((getI g a1 1 1).bind fun x1 =>
  (if x1 = 0 then (fX8_couldHaveLogged_12 g a0 a1 a2 (2 : Int32)) else
  (fX8_couldHaveLogged_12 g a0 a1 a2 (4 : Int32))))
theorem oX8_couldHaveLogged {g : PH} {a0 : Nat} {a1 : Nat} {a2 : Nat} {q : (Int32 × PH)} (h : fX8_couldHaveLogged g a0 a1 a2 = some q) : isO g a0 8 = true := by unfold fX8_couldHaveLogged at h; exact (okb_some h).1
theorem hyX8_couldHaveLogged : hMet yX8_couldHaveLogged RX8 cX8_couldHaveLogged 5 (some .boolean) 2 := ⟨wd_971, wd_970, ws_44, wd_1, rfl, by decide +kernel, by decide +kernel, by decide +kernel⟩
set_option maxHeartbeats 4000000 in
set_option maxRecDepth 100000 in
theorem mX8_couldHaveLogged (l : Launch) (E : HE) (sz : Nat) {g g' : PH} {a0 : Nat} {a1 : Nat} {a2 : Nat} {r : Int32} (hf : fX8_couldHaveLogged g a0 a1 a2 = some (r, g')) : hM l E yX8_couldHaveLogged cX8_couldHaveLogged 5 (some .boolean) 3 83 0 0 sz g [.ref a0, .ref a1, .ref a2] (some (.int r)) g' := by
  refine hM.of (by decide) (Nat.le_of_ble_eq_true rfl) (fun K hl C hin hsz => ?_)
  subst hl
  subst hsz
  have C : VC K E 5 cX8_couldHaveLogged RX8 (some .boolean) := C
  unfold fX8_couldHaveLogged at hf
  replace hf := okb_some hf
  obtain ⟨ho, hf⟩ := hf
  refine V.start (L' := [(0, .ref a0), (1, .ref a1), (2, .ref a2)]) rfl ?_
  refine V.aload_n (pc := 0) C dX8_couldHaveLogged_0 1 rfl ?_
  replace hf := ob_some hf
  obtain ⟨x1, h2, hf⟩ := hf
  refine V.getI (pc := 1) C kX1 (k := 1) (by decide) wd_249 h2 dX8_couldHaveLogged_1 ?_
  refine V.if_eq (pc := 4) (t := 11) C dX8_couldHaveLogged_4 (by decide) (fun c3 => ?_) (fun c3 => ?_)
  · replace hf := ite_t c3 hf
    refine V.iconst (pc := 11) C dX8_couldHaveLogged_11 (v := (2 : Int32)) (by decide) ?_
    refine V.sub (L' := [(0, .ref a0), (1, .ref a1), (2, .ref a2)]) [0, 1, 2] rfl ?_
    exact bX8_couldHaveLogged_12 C  hf
  replace hf := ite_f c3 hf
  refine V.iconst (pc := 7) C dX8_couldHaveLogged_7 (v := (4 : Int32)) (by decide) ?_
  refine V.goto (pc := 8) (t := 12) C dX8_couldHaveLogged_8 (by decide) ?_
  refine V.sub (L' := [(0, .ref a0), (1, .ref a1), (2, .ref a2)]) [0, 1, 2] rfl ?_
  exact bX8_couldHaveLogged_12 C  hf
theorem dX8_gatherOf_0 : decode cX8_gatherOf 0 = .ok (.iconst 0, 1) := by decide +kernel
theorem dX8_gatherOf_1 : decode cX8_gatherOf 1 = .ok (.istore 5, 2) := by decide +kernel
theorem dX8_gatherOf_3 : decode cX8_gatherOf 3 = .ok (.iload 5, 2) := by decide +kernel
theorem dX8_gatherOf_5 : decode cX8_gatherOf 5 = .ok (.aload_n 2, 1) := by decide +kernel
theorem dX8_gatherOf_6 : decode cX8_gatherOf 6 = .ok (.aload_n 0, 1) := by decide +kernel
theorem dX8_gatherOf_7 : decode cX8_gatherOf 7 = .ok (.getfield 38, 3) := by decide +kernel
theorem dX8_gatherOf_10 : decode cX8_gatherOf 10 = .ok (.getfield 105, 3) := by decide +kernel
theorem dX8_gatherOf_13 : decode cX8_gatherOf 13 = .ok (.invokevirtual 108, 3) := by decide +kernel
theorem dX8_gatherOf_16 : decode cX8_gatherOf 16 = .ok (.if_icmp .ge 33, 3) := by decide +kernel
theorem dX8_gatherOf_19 : decode cX8_gatherOf 19 = .ok (.aload_n 0, 1) := by decide +kernel
theorem dX8_gatherOf_20 : decode cX8_gatherOf 20 = .ok (.aload_n 2, 1) := by decide +kernel
theorem dX8_gatherOf_21 : decode cX8_gatherOf 21 = .ok (.iload 5, 2) := by decide +kernel
theorem dX8_gatherOf_23 : decode cX8_gatherOf 23 = .ok (.invokevirtual 264, 3) := by decide +kernel
theorem dX8_gatherOf_26 : decode cX8_gatherOf 26 = .ok (.aload_n 0, 1) := by decide +kernel
theorem dX8_gatherOf_27 : decode cX8_gatherOf 27 = .ok (.aload_n 2, 1) := by decide +kernel
theorem dX8_gatherOf_28 : decode cX8_gatherOf 28 = .ok (.aload 4, 2) := by decide +kernel
theorem dX8_gatherOf_30 : decode cX8_gatherOf 30 = .ok (.invokevirtual 322, 3) := by decide +kernel
theorem dX8_gatherOf_33 : decode cX8_gatherOf 33 = .ok (.ifCond .eq 10, 3) := by decide +kernel
theorem dX8_gatherOf_36 : decode cX8_gatherOf 36 = .ok (.aload_n 1, 1) := by decide +kernel
theorem dX8_gatherOf_37 : decode cX8_gatherOf 37 = .ok (.iload_n 3, 1) := by decide +kernel
theorem dX8_gatherOf_38 : decode cX8_gatherOf 38 = .ok (.iload 5, 2) := by decide +kernel
theorem dX8_gatherOf_40 : decode cX8_gatherOf 40 = .ok (.invokevirtual 325, 3) := by decide +kernel
theorem dX8_gatherOf_43 : decode cX8_gatherOf 43 = .ok (.iinc 5 1, 3) := by decide +kernel
theorem dX8_gatherOf_46 : decode cX8_gatherOf 46 = .ok (.goto (-43), 3) := by decide +kernel
theorem dX8_gatherOf_49 : decode cX8_gatherOf 49 = .ok (.return_, 1) := by decide +kernel
def fX8_gatherOf_43 (k3 : PH → Nat → Nat → Nat → Int32 → Nat → Int32 → Option (Unit × PH)) (g : PH) (v0 : Nat) (v1 : Nat) (v2 : Nat) (v3 : Int32) (v4 : Nat) (v5 : Int32) : Option (Unit × PH) :=
  k3 g v0 v1 v2 v3 v4 (v5 + (1 : Int32))
set_option maxHeartbeats 4000000 in
set_option maxRecDepth 100000 in
theorem bX8_gatherOf_43 {K : HK} {E : HE} {r : Unit} {g' : PH} {k3 : PH → Nat → Nat → Nat → Int32 → Nat → Int32 → Option (Unit × PH)} (C : VC K E 6 cX8_gatherOf RX8 none) (hk3 : ∀ (g : PH) (v0 : Nat) (v1 : Nat) (v2 : Nat) (v3 : Int32) (v4 : Nat) (v5 : Int32), k3 g v0 v1 v2 v3 v4 v5 = some (r, g') → V K E (hRm 4 107 0 0) 6 (hZ K E none g' 0 0) 0 0 (kS K) g 3 [(0, .ref v0), (1, .ref v1), (2, .ref v2), (3, .int v3), (4, .ref v4), (5, .int v5)] []) {g : PH} {v0 : Nat} {v1 : Nat} {v2 : Nat} {v3 : Int32} {v4 : Nat} {v5 : Int32} (hf : fX8_gatherOf_43 k3 g v0 v1 v2 v3 v4 v5 = some (r, g')) : V K E (hRm 4 107 0 0) 6 (hZ K E none g' 0 0) 0 0 (kS K) g 43 [(0, .ref v0), (1, .ref v1), (2, .ref v2), (3, .int v3), (4, .ref v4), (5, .int v5)] [] := by
  unfold fX8_gatherOf_43 at hf
  refine V.iinc (pc := 43) (v := (v5 + (1 : Int32))) (L' := [(5, .int (v5 + (1 : Int32))), (0, .ref v0), (1, .ref v1), (2, .ref v2), (3, .int v3), (4, .ref v4)]) C dX8_gatherOf_43 5 rfl rfl (by decide) rfl ?_
  refine V.goto (pc := 46) (t := 3) C dX8_gatherOf_46 (by decide) ?_
  refine V.sub (L' := [(0, .ref v0), (1, .ref v1), (2, .ref v2), (3, .int v3), (4, .ref v4), (5, .int (v5 + (1 : Int32)))]) [1, 2, 3, 4, 5, 0] rfl ?_
  exact hk3 _ _ _ _ _ _ _ hf
def fX8_gatherOf_3  : Nat → PH → Nat → Nat → Nat → Int32 → Nat → Int32 → Option (Unit × PH)
  | 0, _, _, _, _, _, _, _ => none
  | n + 1, g, v0, v1, v2, v3, v4, v5 =>
  (getR g v0 8 5).bind fun p1 =>
  ((getI g p1 3 0).bind fun x3 =>
  ((fX1_placements g v2 x3).bind fun q5 =>
  (if q5.1 ≤ v5 then (some ((), q5.2)) else
  ((fX8_aim q5.2 v0 v2 v5).bind fun q8 =>
  ((fX8_couldHaveLogged q8.2 v0 v2 v4).bind fun q10 =>
  (if q10.1 = 0 then (fX8_gatherOf_43 (fX8_gatherOf_3 n) q10.2 v0 v1 v2 v3 v4 v5) else
  ((fX5_add q10.2 v1 v3 v5).bind fun q13 =>
  (fX8_gatherOf_43 (fX8_gatherOf_3 n) q13.2 v0 v1 v2 v3 v4 v5))))))))
set_option maxHeartbeats 4000000 in
set_option maxRecDepth 100000 in
theorem bX8_gatherOf_3 {K : HK} {E : HE} {r : Unit} {g' : PH}  (C : VC K E 6 cX8_gatherOf RX8 none)  : ∀ (n : Nat) (g : PH) (v0 : Nat) (v1 : Nat) (v2 : Nat) (v3 : Int32) (v4 : Nat) (v5 : Int32), fX8_gatherOf_3  n g v0 v1 v2 v3 v4 v5 = some (r, g') → V K E (hRm 4 107 0 0) 6 (hZ K E none g' 0 0) 0 0 (kS K) g 3 [(0, .ref v0), (1, .ref v1), (2, .ref v2), (3, .int v3), (4, .ref v4), (5, .int v5)] [] := by
  intro n
  induction n with
  | zero =>
    intro g v0 v1 v2 v3 v4 v5 hf
    rw [fX8_gatherOf_3] at hf
    cases hf
  | succ n ih =>
    intro g v0 v1 v2 v3 v4 v5 hf
    rw [fX8_gatherOf_3] at hf
    refine V.iload (pc := 3) C dX8_gatherOf_3 5 rfl ?_
    refine V.aload_n (pc := 5) C dX8_gatherOf_5 2 rfl ?_
    refine V.aload_n (pc := 6) C dX8_gatherOf_6 0 rfl ?_
    replace hf := ob_some hf
    obtain ⟨p1, h2, hf⟩ := hf
    refine V.getR (pc := 7) C kX8 (k := 5) (by decide) wd_193 h2 dX8_gatherOf_7 ?_
    replace hf := ob_some hf
    obtain ⟨x3, h4, hf⟩ := hf
    refine V.getI (pc := 10) C kX3 (k := 0) (by decide) wd_60 h4 dX8_gatherOf_10 ?_
    replace hf := ob_some hf
    obtain ⟨q5, h6, hf⟩ := hf
    refine V.callV0i (pc := 13) C hyX1_placements wd_541 (mX1_placements (r := q5.1) (g' := q5.2) K.2.1 E (kS K) h6) rfl rfl rfl (oX1_placements h6) ⟨Nat.le_of_ble_eq_true rfl, Nat.le_of_ble_eq_true rfl⟩ (Nat.le_of_ble_eq_true rfl) dX8_gatherOf_13 ⟨Nat.zero_le _, Nat.zero_le _⟩ rfl ?_
    refine V.icmp_ge (pc := 16) (t := 49) C dX8_gatherOf_16 (by decide) (fun c7 => ?_) (fun c7 => ?_)
    · replace hf := ite_t c7 hf
      obtain ⟨f1, f2⟩ := fin2 hf
      clear hf
      subst f1
      subst f2
      exact V.vret (pc := 49) C rfl dX8_gatherOf_49
    replace hf := ite_f c7 hf
    refine V.aload_n (pc := 19) C dX8_gatherOf_19 0 rfl ?_
    refine V.aload_n (pc := 20) C dX8_gatherOf_20 2 rfl ?_
    refine V.iload (pc := 21) C dX8_gatherOf_21 5 rfl ?_
    replace hf := ob_some hf
    obtain ⟨q8, h9, hf⟩ := hf
    refine V.callV0v (pc := 23) C hyX8_aim wd_643 (mX8_aim (r := q8.1) (g' := q8.2) K.2.1 E (kS K) h9) rfl rfl rfl (oX8_aim h9) ⟨Nat.le_of_ble_eq_true rfl, Nat.le_of_ble_eq_true rfl⟩ (Nat.le_of_ble_eq_true rfl) dX8_gatherOf_23 ⟨Nat.zero_le _, Nat.zero_le _⟩ rfl ?_
    refine V.aload_n (pc := 26) C dX8_gatherOf_26 0 rfl ?_
    refine V.aload_n (pc := 27) C dX8_gatherOf_27 2 rfl ?_
    refine V.aload (pc := 28) C dX8_gatherOf_28 4 rfl ?_
    replace hf := ob_some hf
    obtain ⟨q10, h11, hf⟩ := hf
    refine V.callV0i (pc := 30) C hyX8_couldHaveLogged wd_968 (mX8_couldHaveLogged (r := q10.1) (g' := q10.2) K.2.1 E (kS K) h11) rfl rfl rfl (oX8_couldHaveLogged h11) ⟨Nat.le_of_ble_eq_true rfl, Nat.le_of_ble_eq_true rfl⟩ (Nat.le_of_ble_eq_true rfl) dX8_gatherOf_30 ⟨Nat.zero_le _, Nat.zero_le _⟩ rfl ?_
    refine V.if_eq (pc := 33) (t := 43) C dX8_gatherOf_33 (by decide) (fun c12 => ?_) (fun c12 => ?_)
    · replace hf := ite_t c12 hf
      refine V.sub (L' := [(0, .ref v0), (1, .ref v1), (2, .ref v2), (3, .int v3), (4, .ref v4), (5, .int v5)]) [0, 1, 2, 3, 4, 5] rfl ?_
      exact bX8_gatherOf_43 C ih hf
    replace hf := ite_f c12 hf
    refine V.aload_n (pc := 36) C dX8_gatherOf_36 1 rfl ?_
    refine V.iload_n (pc := 37) C dX8_gatherOf_37 3 rfl ?_
    refine V.iload (pc := 38) C dX8_gatherOf_38 5 rfl ?_
    replace hf := ob_some hf
    obtain ⟨q13, h14, hf⟩ := hf
    refine V.callV0v (pc := 40) C hyX5_add wd_981 (mX5_add (r := q13.1) (g' := q13.2) K.2.1 E (kS K) h14) rfl rfl rfl (oX5_add h14) ⟨Nat.le_of_ble_eq_true rfl, Nat.le_of_ble_eq_true rfl⟩ (Nat.le_of_ble_eq_true rfl) dX8_gatherOf_40 ⟨Nat.zero_le _, Nat.zero_le _⟩ rfl ?_
    refine V.sub (L' := [(0, .ref v0), (1, .ref v1), (2, .ref v2), (3, .int v3), (4, .ref v4), (5, .int v5)]) [0, 1, 2, 3, 4, 5] rfl ?_
    exact bX8_gatherOf_43 C ih hf
def fX8_gatherOf (g : PH) (a0 : Nat) (a1 : Nat) (a2 : Nat) (a3 : Int32) (a4 : Nat) : Option (Unit × PH) :=
  okb (isO g a0 8) (fX8_gatherOf_3 FUEL g a0 a1 a2 a3 a4 (0 : Int32))
theorem oX8_gatherOf {g : PH} {a0 : Nat} {a1 : Nat} {a2 : Nat} {a3 : Int32} {a4 : Nat} {q : (Unit × PH)} (h : fX8_gatherOf g a0 a1 a2 a3 a4 = some q) : isO g a0 8 = true := by unfold fX8_gatherOf at h; exact (okb_some h).1
theorem hyX8_gatherOf : hMet yX8_gatherOf RX8 cX8_gatherOf 6 none 4 := ⟨wd_967, wd_966, ws_43, wd_1, rfl, by decide +kernel, by decide +kernel, by decide +kernel⟩
set_option maxHeartbeats 4000000 in
set_option maxRecDepth 100000 in
theorem mX8_gatherOf (l : Launch) (E : HE) (sz : Nat) {g g' : PH} {a0 : Nat} {a1 : Nat} {a2 : Nat} {a3 : Int32} {a4 : Nat} {r : Unit} (hf : fX8_gatherOf g a0 a1 a2 a3 a4 = some (r, g')) : hM l E yX8_gatherOf cX8_gatherOf 6 none 4 107 0 0 sz g [.ref a0, .ref a1, .ref a2, .int a3, .ref a4] none g' := by
  refine hM.of (by decide) (Nat.le_of_ble_eq_true rfl) (fun K hl C hin hsz => ?_)
  subst hl
  subst hsz
  have C : VC K E 6 cX8_gatherOf RX8 none := C
  unfold fX8_gatherOf at hf
  replace hf := okb_some hf
  obtain ⟨ho, hf⟩ := hf
  refine V.start (L' := [(0, .ref a0), (1, .ref a1), (2, .ref a2), (3, .int a3), (4, .ref a4)]) rfl ?_
  refine V.iconst (pc := 0) C dX8_gatherOf_0 (v := (0 : Int32)) (by decide) ?_
  refine V.istore (pc := 1) (L' := [(5, .int (0 : Int32)), (0, .ref a0), (1, .ref a1), (2, .ref a2), (3, .int a3), (4, .ref a4)]) C dX8_gatherOf_1 (by decide) rfl ?_
  refine V.sub (L' := [(0, .ref a0), (1, .ref a1), (2, .ref a2), (3, .int a3), (4, .ref a4), (5, .int (0 : Int32))]) [1, 2, 3, 4, 5, 0] rfl ?_
  exact bX8_gatherOf_3 C  _ _ _ _ _ _ _ _ hf
theorem dX8_gatheredSuspects_0 : decode cX8_gatheredSuspects 0 = .ok (.aload_n 0, 1) := by decide +kernel
theorem dX8_gatheredSuspects_1 : decode cX8_gatheredSuspects 1 = .ok (.getfield 60, 3) := by decide +kernel
theorem dX8_gatheredSuspects_4 : decode cX8_gatheredSuspects 4 = .ok (.ifnonnull 14, 3) := by decide +kernel
theorem dX8_gatheredSuspects_7 : decode cX8_gatheredSuspects 7 = .ok (.aload_n 0, 1) := by decide +kernel
theorem dX8_gatheredSuspects_8 : decode cX8_gatheredSuspects 8 = .ok (.new 243, 3) := by decide +kernel
theorem dX8_gatheredSuspects_11 : decode cX8_gatheredSuspects 11 = .ok (.dup, 1) := by decide +kernel
theorem dX8_gatheredSuspects_12 : decode cX8_gatheredSuspects 12 = .ok (.invokespecial 317, 3) := by decide +kernel
theorem dX8_gatheredSuspects_15 : decode cX8_gatheredSuspects 15 = .ok (.putfield 60, 3) := by decide +kernel
theorem dX8_gatheredSuspects_18 : decode cX8_gatheredSuspects 18 = .ok (.aload_n 0, 1) := by decide +kernel
theorem dX8_gatheredSuspects_19 : decode cX8_gatheredSuspects 19 = .ok (.getfield 60, 3) := by decide +kernel
theorem dX8_gatheredSuspects_22 : decode cX8_gatheredSuspects 22 = .ok (.astore_n 1, 1) := by decide +kernel
theorem dX8_gatheredSuspects_23 : decode cX8_gatheredSuspects 23 = .ok (.aload_n 1, 1) := by decide +kernel
theorem dX8_gatheredSuspects_24 : decode cX8_gatheredSuspects 24 = .ok (.iconst 0, 1) := by decide +kernel
theorem dX8_gatheredSuspects_25 : decode cX8_gatheredSuspects 25 = .ok (.putfield 242, 3) := by decide +kernel
theorem dX8_gatheredSuspects_28 : decode cX8_gatheredSuspects 28 = .ok (.aload_n 0, 1) := by decide +kernel
theorem dX8_gatheredSuspects_29 : decode cX8_gatheredSuspects 29 = .ok (.aload_n 0, 1) := by decide +kernel
theorem dX8_gatheredSuspects_30 : decode cX8_gatheredSuspects 30 = .ok (.getfield 38, 3) := by decide +kernel
theorem dX8_gatheredSuspects_33 : decode cX8_gatheredSuspects 33 = .ok (.getfield 235, 3) := by decide +kernel
theorem dX8_gatheredSuspects_36 : decode cX8_gatheredSuspects 36 = .ok (.invokevirtual 112, 3) := by decide +kernel
theorem dX8_gatheredSuspects_39 : decode cX8_gatheredSuspects 39 = .ok (.astore_n 2, 1) := by decide +kernel
theorem dX8_gatheredSuspects_40 : decode cX8_gatheredSuspects 40 = .ok (.iconst 0, 1) := by decide +kernel
theorem dX8_gatheredSuspects_41 : decode cX8_gatheredSuspects 41 = .ok (.istore_n 3, 1) := by decide +kernel
theorem dX8_gatheredSuspects_42 : decode cX8_gatheredSuspects 42 = .ok (.iload_n 3, 1) := by decide +kernel
theorem dX8_gatheredSuspects_43 : decode cX8_gatheredSuspects 43 = .ok (.aload_n 0, 1) := by decide +kernel
theorem dX8_gatheredSuspects_44 : decode cX8_gatheredSuspects 44 = .ok (.getfield 22, 3) := by decide +kernel
theorem dX8_gatheredSuspects_47 : decode cX8_gatheredSuspects 47 = .ok (.if_icmp .ge 34, 3) := by decide +kernel
theorem dX8_gatheredSuspects_50 : decode cX8_gatheredSuspects 50 = .ok (.aload_n 0, 1) := by decide +kernel
theorem dX8_gatheredSuspects_51 : decode cX8_gatheredSuspects 51 = .ok (.iload_n 3, 1) := by decide +kernel
theorem dX8_gatheredSuspects_52 : decode cX8_gatheredSuspects 52 = .ok (.invokevirtual 94, 3) := by decide +kernel
theorem dX8_gatheredSuspects_55 : decode cX8_gatheredSuspects 55 = .ok (.astore 4, 2) := by decide +kernel
theorem dX8_gatheredSuspects_57 : decode cX8_gatheredSuspects 57 = .ok (.aload 4, 2) := by decide +kernel
theorem dX8_gatheredSuspects_59 : decode cX8_gatheredSuspects 59 = .ok (.ifnull 16, 3) := by decide +kernel
theorem dX8_gatheredSuspects_62 : decode cX8_gatheredSuspects 62 = .ok (.aload_n 2, 1) := by decide +kernel
theorem dX8_gatheredSuspects_63 : decode cX8_gatheredSuspects 63 = .ok (.ifnull 12, 3) := by decide +kernel
theorem dX8_gatheredSuspects_66 : decode cX8_gatheredSuspects 66 = .ok (.aload_n 0, 1) := by decide +kernel
theorem dX8_gatheredSuspects_67 : decode cX8_gatheredSuspects 67 = .ok (.aload_n 1, 1) := by decide +kernel
theorem dX8_gatheredSuspects_68 : decode cX8_gatheredSuspects 68 = .ok (.aload 4, 2) := by decide +kernel
theorem dX8_gatheredSuspects_70 : decode cX8_gatheredSuspects 70 = .ok (.iload_n 3, 1) := by decide +kernel
theorem dX8_gatheredSuspects_71 : decode cX8_gatheredSuspects 71 = .ok (.aload_n 2, 1) := by decide +kernel
theorem dX8_gatheredSuspects_72 : decode cX8_gatheredSuspects 72 = .ok (.invokevirtual 318, 3) := by decide +kernel
theorem dX8_gatheredSuspects_75 : decode cX8_gatheredSuspects 75 = .ok (.iinc 3 1, 3) := by decide +kernel
theorem dX8_gatheredSuspects_78 : decode cX8_gatheredSuspects 78 = .ok (.goto (-36), 3) := by decide +kernel
theorem dX8_gatheredSuspects_81 : decode cX8_gatheredSuspects 81 = .ok (.aload_n 1, 1) := by decide +kernel
theorem dX8_gatheredSuspects_82 : decode cX8_gatheredSuspects 82 = .ok (.areturn, 1) := by decide +kernel
def fX8_gatheredSuspects_75 (k42 : PH → Nat → Nat → Nat → Option Nat → Int32 → Option (Option Nat × PH × Nat × Nat)) (g : PH) (sz : Nat) (v0 : Nat) (v1 : Nat) (v2 : Option Nat) (v3 : Int32) : Option (Option Nat × PH × Nat × Nat) :=
  k42 g sz v0 v1 v2 (v3 + (1 : Int32))
set_option maxHeartbeats 4000000 in
set_option maxRecDepth 100000 in
theorem bX8_gatheredSuspects_75 {K : HK} {E : HE} {r : Option Nat} {g' : PH} {mc ms : Nat} {k42 : PH → Nat → Nat → Nat → Option Nat → Int32 → Option (Option Nat × PH × Nat × Nat)} (C : VC K E 5 cX8_gatheredSuspects RX8 (some (.object RX5))) (hk42 : ∀ (g : PH) (sz : Nat) (v0 : Nat) (v1 : Nat) (v2 : Option Nat) (v3 : Int32) (u1 u2 cs sl : Nat), k42 g sz v0 v1 v2 v3 = some (r, g', u1, u2) → cs + u1 = mc → sl + u2 = ms → sz = kS K + cs → V K E (hRm 5 132 mc ms) 5 (hZ K E (some (va_rf r)) g' mc ms) cs sl sz g 42 [(0, .ref v0), (1, .ref v1), (2, va_rf v2), (3, .int v3)] []) {g : PH} {sz : Nat} {v0 : Nat} {v1 : Nat} {v2 : Option Nat} {v3 : Int32} {u1 u2 cs sl : Nat} (hf : fX8_gatheredSuspects_75 k42 g sz v0 v1 v2 v3 = some (r, g', u1, u2)) (e1 : cs + u1 = mc) (e2 : sl + u2 = ms) (e3 : sz = kS K + cs) : V K E (hRm 5 132 mc ms) 5 (hZ K E (some (va_rf r)) g' mc ms) cs sl sz g 75 [(0, .ref v0), (1, .ref v1), (2, va_rf v2), (3, .int v3)] [] := by
  have hkS : K.2.2.2.1.heap.size = kS K := rfl
  unfold fX8_gatheredSuspects_75 at hf
  refine V.iinc (pc := 75) (v := (v3 + (1 : Int32))) (L' := [(3, .int (v3 + (1 : Int32))), (0, .ref v0), (1, .ref v1), (2, va_rf v2)]) C dX8_gatheredSuspects_75 3 rfl rfl (by decide) (by cases v2 <;> rfl) ?_
  refine V.goto (pc := 78) (t := 42) C dX8_gatheredSuspects_78 (by decide) ?_
  refine V.sub (L' := [(0, .ref v0), (1, .ref v1), (2, va_rf v2), (3, .int (v3 + (1 : Int32)))]) [1, 2, 3, 0] rfl ?_
  exact hk42 _ _ _ _ _ _ _ _ _ _ hf (by omega) (by omega) (by omega)
def fX8_gatheredSuspects_42  : Nat → PH → Nat → Nat → Nat → Option Nat → Int32 → Option (Option Nat × PH × Nat × Nat)
  | 0, _, _, _, _, _, _ => none
  | n + 1, g, sz, v0, v1, v2, v3 =>
  (getI g v0 8 2).bind fun x1 =>
  (if x1 ≤ v3 then (some ((some v1), g, 0, 0)) else
  ((fX8_kindAt g v0 v3).bind fun (z5, g6) =>
  (z5.elim (fX8_gatheredSuspects_75 (fX8_gatheredSuspects_42 n) g6 sz v0 v1 v2 v3) (fun p8 =>
  v2.elim (fX8_gatheredSuspects_75 (fX8_gatheredSuspects_42 n) g6 sz v0 v1 none v3) (fun p9 =>
  (fX8_gatherOf g6 v0 v1 p8 v3 p9).bind fun q10 =>
  (fX8_gatheredSuspects_75 (fX8_gatheredSuspects_42 n) q10.2 sz v0 v1 (some p9) v3))))))
set_option maxHeartbeats 4000000 in
set_option maxRecDepth 100000 in
theorem bX8_gatheredSuspects_42 {K : HK} {E : HE} {r : Option Nat} {g' : PH} {mc ms : Nat}  (C : VC K E 5 cX8_gatheredSuspects RX8 (some (.object RX5)))  : ∀ (n : Nat) (g : PH) (sz : Nat) (v0 : Nat) (v1 : Nat) (v2 : Option Nat) (v3 : Int32) (u1 u2 cs sl : Nat), fX8_gatheredSuspects_42  n g sz v0 v1 v2 v3 = some (r, g', u1, u2) → cs + u1 = mc → sl + u2 = ms → sz = kS K + cs → V K E (hRm 5 132 mc ms) 5 (hZ K E (some (va_rf r)) g' mc ms) cs sl sz g 42 [(0, .ref v0), (1, .ref v1), (2, va_rf v2), (3, .int v3)] [] := by
  intro n
  have hkS : K.2.2.2.1.heap.size = kS K := rfl
  induction n with
  | zero =>
    intro g sz v0 v1 v2 v3 u1 u2 cs sl hf e1 e2 e3
    rw [fX8_gatheredSuspects_42] at hf
    cases hf
  | succ n ih =>
    intro g sz v0 v1 v2 v3 u1 u2 cs sl hf e1 e2 e3
    rw [fX8_gatheredSuspects_42] at hf
    refine V.iload_n (pc := 42) C dX8_gatheredSuspects_42 3 rfl ?_
    refine V.aload_n (pc := 43) C dX8_gatheredSuspects_43 0 rfl ?_
    replace hf := ob_some hf
    obtain ⟨x1, h2, hf⟩ := hf
    refine V.getI (pc := 44) C kX8 (k := 2) (by decide) wd_190 h2 dX8_gatheredSuspects_44 ?_
    refine V.icmp_ge (pc := 47) (t := 81) C dX8_gatheredSuspects_47 (by decide) (fun c3 => ?_) (fun c3 => ?_)
    · replace hf := ite_t c3 hf
      refine V.aload_n (pc := 81) C dX8_gatheredSuspects_81 1 rfl ?_
      obtain ⟨f1, f2, f3, f4⟩ := fin4 hf
      clear hf
      subst f1
      subst f2
      refine V.cast (c := mc) (s := ms) (by omega) (by omega) ?_
      exact V.aret (pc := 82) (v := (some v1)) C (by omega) dX8_gatheredSuspects_82
    replace hf := ite_f c3 hf
    refine V.aload_n (pc := 50) C dX8_gatheredSuspects_50 0 rfl ?_
    refine V.iload_n (pc := 51) C dX8_gatheredSuspects_51 3 rfl ?_
    replace hf := ob_some hf
    obtain ⟨⟨z5, g6⟩, h7, hf⟩ := hf
    dsimp only at hf
    refine V.callV0q (pc := 52) C hyX8_kindAt wd_537 (mX8_kindAt (r := z5) (g' := g6) K.2.1 E (sz) h7) rfl rfl rfl (oX8_kindAt h7) ⟨Nat.le_of_ble_eq_true rfl, Nat.le_of_ble_eq_true rfl⟩ (Nat.le_of_ble_eq_true rfl) dX8_gatheredSuspects_52 ⟨by show _ ≤ mc; omega, by show _ ≤ ms; omega⟩ rfl ?_
    refine V.astoreQ (pc := 55) (L' := [(4, va_rf z5), (0, .ref v0), (1, .ref v1), (2, va_rf v2), (3, .int v3)]) C (x := z5) dX8_gatheredSuspects_55 (by decide) rfl ?_
    refine V.aloadQ (pc := 57) C dX8_gatheredSuspects_57 0 rfl ?_
    rcases z5 with _ | p8
    · refine V.ifnullN (pc := 59) (t := 75) C dX8_gatheredSuspects_59 (by decide) ?_
      refine V.sub (L' := [(0, .ref v0), (1, .ref v1), (2, va_rf v2), (3, .int v3)]) [1, 2, 3, 4] rfl ?_
      exact bX8_gatheredSuspects_75 C ih hf (by omega) (by omega) (by omega)
    refine V.ifnull (pc := 59) C dX8_gatheredSuspects_59 ?_
    refine V.aload_nQ (pc := 62) C dX8_gatheredSuspects_62 3 rfl ?_
    rcases v2 with _ | p9
    · refine V.ifnullN (pc := 63) (t := 75) C dX8_gatheredSuspects_63 (by decide) ?_
      refine V.sub (L' := [(0, .ref v0), (1, .ref v1), (2, va_rf none), (3, .int v3)]) [1, 2, 3, 4] rfl ?_
      exact bX8_gatheredSuspects_75 C ih hf (by omega) (by omega) (by omega)
    refine V.ifnull (pc := 63) C dX8_gatheredSuspects_63 ?_
    refine V.aload_n (pc := 66) C dX8_gatheredSuspects_66 1 rfl ?_
    refine V.aload_n (pc := 67) C dX8_gatheredSuspects_67 2 rfl ?_
    refine V.aload (pc := 68) C dX8_gatheredSuspects_68 0 rfl ?_
    refine V.iload_n (pc := 70) C dX8_gatheredSuspects_70 4 rfl ?_
    refine V.aload_n (pc := 71) C dX8_gatheredSuspects_71 3 rfl ?_
    replace hf := ob_some hf
    obtain ⟨q10, h11, hf⟩ := hf
    refine V.callV0v (pc := 72) C hyX8_gatherOf wd_964 (mX8_gatherOf (r := q10.1) (g' := q10.2) K.2.1 E (sz) h11) rfl rfl rfl (oX8_gatherOf h11) ⟨Nat.le_of_ble_eq_true rfl, Nat.le_of_ble_eq_true rfl⟩ (Nat.le_of_ble_eq_true rfl) dX8_gatheredSuspects_72 ⟨by show _ ≤ mc; omega, by show _ ≤ ms; omega⟩ rfl ?_
    refine V.sub (L' := [(0, .ref v0), (1, .ref v1), (2, va_rf (some p9)), (3, .int v3)]) [1, 2, 3, 4] rfl ?_
    exact bX8_gatheredSuspects_75 C ih hf (by omega) (by omega) (by omega)
def fX8_gatheredSuspects_18  (g : PH) (sz : Nat) (v0 : Nat) : Option (Option Nat × PH × Nat × Nat) :=
  (getQ g v0 8 9).bind fun q1 =>
  (q1.bind fun p3 =>
  ((putV g p3 5 0 (.int (0 : Int32))).bind fun g5 =>
  ((getR g5 v0 8 5).bind fun p7 =>
  ((getI g5 p7 3 6).bind fun x9 =>
  ((fX8_marchAt g5 v0 x9).bind fun (z12, g13) =>
  (fX8_gatheredSuspects_42 FUEL g13 sz v0 p3 z12 (0 : Int32)))))))
set_option maxHeartbeats 4000000 in
set_option maxRecDepth 100000 in
theorem bX8_gatheredSuspects_18 {K : HK} {E : HE} {r : Option Nat} {g' : PH} {mc ms : Nat}  (C : VC K E 5 cX8_gatheredSuspects RX8 (some (.object RX5)))  {g : PH} {sz : Nat} {v0 : Nat} {u1 u2 cs sl : Nat} (hf : fX8_gatheredSuspects_18  g sz v0 = some (r, g', u1, u2)) (e1 : cs + u1 = mc) (e2 : sl + u2 = ms) (e3 : sz = kS K + cs) : V K E (hRm 5 132 mc ms) 5 (hZ K E (some (va_rf r)) g' mc ms) cs sl sz g 18 [(0, .ref v0)] [] := by
  have hkS : K.2.2.2.1.heap.size = kS K := rfl
  unfold fX8_gatheredSuspects_18 at hf
  refine V.aload_n (pc := 18) C dX8_gatheredSuspects_18 0 rfl ?_
  replace hf := ob_some hf
  obtain ⟨q1, h2, hf⟩ := hf
  refine V.getQ (pc := 19) C kX8 (k := 9) (by decide) wd_197 h2 dX8_gatheredSuspects_19 ?_
  refine V.astore_nQ (pc := 22) (L' := [(1, va_rf q1), (0, .ref v0)]) C (x := q1) dX8_gatheredSuspects_22 (by decide) rfl ?_
  refine V.aload_nQ (pc := 23) C dX8_gatheredSuspects_23 0 rfl ?_
  refine V.iconst (pc := 24) C dX8_gatheredSuspects_24 (v := (0 : Int32)) (by decide) ?_
  replace hf := ob_some hf
  obtain ⟨p3, h4, hf⟩ := hf
  subst h4
  replace hf := ob_some hf
  obtain ⟨g5, h6, hf⟩ := hf
  refine V.putX (pc := 25) C kX5 (k := 0) (by decide) wd_944 rfl rfl rfl h6 dX8_gatheredSuspects_25 ?_
  refine V.aload_n (pc := 28) C dX8_gatheredSuspects_28 1 rfl ?_
  refine V.aload_n (pc := 29) C dX8_gatheredSuspects_29 1 rfl ?_
  replace hf := ob_some hf
  obtain ⟨p7, h8, hf⟩ := hf
  refine V.getR (pc := 30) C kX8 (k := 5) (by decide) wd_193 h8 dX8_gatheredSuspects_30 ?_
  replace hf := ob_some hf
  obtain ⟨x9, h10, hf⟩ := hf
  refine V.getI (pc := 33) C kX3 (k := 6) (by decide) wd_72 h10 dX8_gatheredSuspects_33 ?_
  replace hf := ob_some hf
  obtain ⟨⟨z12, g13⟩, h14, hf⟩ := hf
  dsimp only at hf
  refine V.callV0q (pc := 36) C hyX8_marchAt wd_549 (mX8_marchAt (r := z12) (g' := g13) K.2.1 E (sz) h14) rfl rfl rfl (oX8_marchAt h14) ⟨Nat.le_of_ble_eq_true rfl, Nat.le_of_ble_eq_true rfl⟩ (Nat.le_of_ble_eq_true rfl) dX8_gatheredSuspects_36 ⟨by show _ ≤ mc; omega, by show _ ≤ ms; omega⟩ rfl ?_
  refine V.astore_nQ (pc := 39) (L' := [(2, va_rf z12), (1, .ref p3), (0, .ref v0)]) C (x := z12) dX8_gatheredSuspects_39 (by decide) rfl ?_
  refine V.iconst (pc := 40) C dX8_gatheredSuspects_40 (v := (0 : Int32)) (by decide) ?_
  refine V.istore_n (pc := 41) (L' := [(3, .int (0 : Int32)), (2, va_rf z12), (1, .ref p3), (0, .ref v0)]) C dX8_gatheredSuspects_41 (by decide) (by cases z12 <;> rfl) ?_
  refine V.sub (L' := [(0, .ref v0), (1, .ref p3), (2, va_rf z12), (3, .int (0 : Int32))]) [3, 2, 1, 0] rfl ?_
  exact bX8_gatheredSuspects_42 C  _ _ _ _ _ _ _ _ _ _ _ hf (by omega) (by omega) (by omega)
def fX8_gatheredSuspects (sz : Nat) (g : PH) (a0 : Nat) : Option (Option Nat × PH × Nat × Nat) :=
  okb (isO g a0 8) ((getQ g a0 8 9).bind fun q1 =>
  (q1.elim (bmp 1 6 ((fX5_init (sz + 1) (hup g sz (.inr (5, dfX5))) sz).bind fun q9 =>
  (bmp q9.2.2.1 q9.2.2.2 ((putV q9.2.1 a0 8 9 (.ref sz)).bind fun g15 =>
  (fX8_gatheredSuspects_18 g15 ((sz + 1) + q9.2.2.1) a0))))) (fun p3 =>
  fX8_gatheredSuspects_18 g sz a0)))
theorem oX8_gatheredSuspects {g : PH} {sz : Nat} {a0 : Nat} {q : (Option Nat × PH × Nat × Nat)} (h : fX8_gatheredSuspects sz g a0 = some q) : isO g a0 8 = true := by unfold fX8_gatheredSuspects at h; exact (okb_some h).1
theorem hyX8_gatheredSuspects : hMet yX8_gatheredSuspects RX8 cX8_gatheredSuspects 5 (some (.object RX5)) 0 := ⟨wd_936, wd_935, ws_42, wd_1, rfl, by decide +kernel, by decide +kernel, by decide +kernel⟩
set_option maxHeartbeats 4000000 in
set_option maxRecDepth 100000 in
theorem mX8_gatheredSuspects (l : Launch) (E : HE) (sz : Nat) {g g' : PH} {a0 : Nat} {r : Option Nat} {mc ms : Nat} (hf : fX8_gatheredSuspects sz g a0 = some (r, g', mc, ms)) : hM l E yX8_gatheredSuspects cX8_gatheredSuspects 5 (some (.object RX5)) 5 132 mc ms sz g [.ref a0] (some (va_rf r)) g' := by
  refine hM.of (by decide) (Nat.le_of_ble_eq_true rfl) (fun K hl C hin hsz => ?_)
  subst hl
  subst hsz
  have C : VC K E 5 cX8_gatheredSuspects RX8 (some (.object RX5)) := C
  unfold fX8_gatheredSuspects at hf
  replace hf := okb_some hf
  obtain ⟨ho, hf⟩ := hf
  have hkS : K.2.2.2.1.heap.size = kS K := rfl
  have e1 : 0 + mc = mc := Nat.zero_add _
  have e2 : 0 + ms = ms := Nat.zero_add _
  have e3 : kS K = kS K + 0 := rfl
  refine V.start (L' := [(0, .ref a0)]) rfl ?_
  refine V.aload_n (pc := 0) C dX8_gatheredSuspects_0 0 rfl ?_
  replace hf := ob_some hf
  obtain ⟨q1, h2, hf⟩ := hf
  refine V.getQ (pc := 1) C kX8 (k := 9) (by decide) wd_197 h2 dX8_gatheredSuspects_1 ?_
  rcases q1 with _ | p3
  · refine V.ifnonnullN (pc := 4) C dX8_gatheredSuspects_4 ?_
    refine V.aload_n (pc := 7) C dX8_gatheredSuspects_7 0 rfl ?_
    replace hf := bmp_some hf
    obtain ⟨b4, b5, hf, h6, h7⟩ := hf
    refine V.new (pc := 8) C kX5 (fs := dfX5) wd_937 wd_938 wd_18 dfX5_ok (by show _ ≤ mc; omega) (by show _ ≤ ms; omega) dX8_gatheredSuspects_8 ?_
    refine V.dup (pc := 11) C dX8_gatheredSuspects_11 rfl ?_
    replace hf := ob_some hf
    obtain ⟨q9, h10, hf⟩ := hf
    replace hf := bmp_some hf
    obtain ⟨b11, b12, hf, h13, h14⟩ := hf
    refine V.callIN (host := RX8) (pc := 12) C hyX5_init (by decide +kernel) (mX5_init (r := q9.1) (g' := q9.2.1) (mc := q9.2.2.1) (ms := q9.2.2.2) K.2.1 E (((kS K) + 1)) h10) rfl ⟨Nat.le_of_ble_eq_true rfl, Nat.le_of_ble_eq_true rfl⟩ (Nat.le_of_ble_eq_true rfl) dX8_gatheredSuspects_12 ⟨by show _ ≤ mc; omega, by show _ ≤ ms; omega⟩ rfl ?_
    replace hf := ob_some hf
    obtain ⟨g15, h16, hf⟩ := hf
    refine V.putX (pc := 15) C kX8 (k := 9) (by decide) wd_197 rfl rfl rfl h16 dX8_gatheredSuspects_15 ?_
    refine V.sub (L' := [(0, .ref a0)]) [0] rfl ?_
    exact bX8_gatheredSuspects_18 C  hf (by omega) (by omega) (by omega)
  refine V.ifnonnull (pc := 4) (t := 18) C dX8_gatheredSuspects_4 (by decide) ?_
  refine V.sub (L' := [(0, .ref a0)]) [0] rfl ?_
  exact bX8_gatheredSuspects_18 C  hf (by omega) (by omega) (by omega)
theorem dX8_fits_0 : decode cX8_fits 0 = .ok (.iload_n 1, 1) := by decide +kernel
theorem dX8_fits_1 : decode cX8_fits 1 = .ok (.ifCond .lt 22, 3) := by decide +kernel
theorem dX8_fits_4 : decode cX8_fits 4 = .ok (.iload_n 1, 1) := by decide +kernel
theorem dX8_fits_5 : decode cX8_fits 5 = .ok (.iconst 3, 1) := by decide +kernel
theorem dX8_fits_6 : decode cX8_fits 6 = .ok (.if_icmp .gt 17, 3) := by decide +kernel
theorem dX8_fits_9 : decode cX8_fits 9 = .ok (.aload_n 0, 1) := by decide +kernel
theorem dX8_fits_10 : decode cX8_fits 10 = .ok (.aload_n 0, 1) := by decide +kernel
theorem dX8_fits_11 : decode cX8_fits 11 = .ok (.getfield 38, 3) := by decide +kernel
theorem dX8_fits_14 : decode cX8_fits 14 = .ok (.getfield 235, 3) := by decide +kernel
theorem dX8_fits_17 : decode cX8_fits 17 = .ok (.invokevirtual 112, 3) := by decide +kernel
theorem dX8_fits_20 : decode cX8_fits 20 = .ok (.ifnonnull 5, 3) := by decide +kernel
theorem dX8_fits_23 : decode cX8_fits 23 = .ok (.iconst (-1), 1) := by decide +kernel
theorem dX8_fits_24 : decode cX8_fits 24 = .ok (.ireturn, 1) := by decide +kernel
theorem dX8_fits_25 : decode cX8_fits 25 = .ok (.aload_n 0, 1) := by decide +kernel
theorem dX8_fits_26 : decode cX8_fits 26 = .ok (.invokevirtual 238, 3) := by decide +kernel
theorem dX8_fits_29 : decode cX8_fits 29 = .ok (.astore_n 2, 1) := by decide +kernel
theorem dX8_fits_30 : decode cX8_fits 30 = .ok (.iload_n 1, 1) := by decide +kernel
theorem dX8_fits_31 : decode cX8_fits 31 = .ok (.ifCond .ne 8, 3) := by decide +kernel
theorem dX8_fits_34 : decode cX8_fits 34 = .ok (.aload_n 2, 1) := by decide +kernel
theorem dX8_fits_35 : decode cX8_fits 35 = .ok (.getfield 242, 3) := by decide +kernel
theorem dX8_fits_38 : decode cX8_fits 38 = .ok (.ireturn, 1) := by decide +kernel
theorem dX8_fits_39 : decode cX8_fits 39 = .ok (.aload_n 2, 1) := by decide +kernel
theorem dX8_fits_40 : decode cX8_fits 40 = .ok (.getfield 242, 3) := by decide +kernel
theorem dX8_fits_43 : decode cX8_fits 43 = .ok (.ifCond .ne 6, 3) := by decide +kernel
theorem dX8_fits_46 : decode cX8_fits 46 = .ok (.bipush (-2), 2) := by decide +kernel
theorem dX8_fits_48 : decode cX8_fits 48 = .ok (.ireturn, 1) := by decide +kernel
theorem dX8_fits_49 : decode cX8_fits 49 = .ok (.iload_n 1, 1) := by decide +kernel
theorem dX8_fits_50 : decode cX8_fits 50 = .ok (.iconst 1, 1) := by decide +kernel
theorem dX8_fits_51 : decode cX8_fits 51 = .ok (.if_icmp .ne 9, 3) := by decide +kernel
theorem dX8_fits_54 : decode cX8_fits 54 = .ok (.aload_n 2, 1) := by decide +kernel
theorem dX8_fits_55 : decode cX8_fits 55 = .ok (.iconst 0, 1) := by decide +kernel
theorem dX8_fits_56 : decode cX8_fits 56 = .ok (.invokevirtual 245, 3) := by decide +kernel
theorem dX8_fits_59 : decode cX8_fits 59 = .ok (.ireturn, 1) := by decide +kernel
theorem dX8_fits_60 : decode cX8_fits 60 = .ok (.aload_n 0, 1) := by decide +kernel
theorem dX8_fits_61 : decode cX8_fits 61 = .ok (.aload_n 2, 1) := by decide +kernel
theorem dX8_fits_62 : decode cX8_fits 62 = .ok (.iconst 0, 1) := by decide +kernel
theorem dX8_fits_63 : decode cX8_fits 63 = .ok (.invokevirtual 245, 3) := by decide +kernel
theorem dX8_fits_66 : decode cX8_fits 66 = .ok (.invokevirtual 94, 3) := by decide +kernel
theorem dX8_fits_69 : decode cX8_fits 69 = .ok (.astore_n 3, 1) := by decide +kernel
theorem dX8_fits_70 : decode cX8_fits 70 = .ok (.aload_n 3, 1) := by decide +kernel
theorem dX8_fits_71 : decode cX8_fits 71 = .ok (.ifnonnull 6, 3) := by decide +kernel
theorem dX8_fits_74 : decode cX8_fits 74 = .ok (.bipush (-2), 2) := by decide +kernel
theorem dX8_fits_76 : decode cX8_fits 76 = .ok (.ireturn, 1) := by decide +kernel
theorem dX8_fits_77 : decode cX8_fits 77 = .ok (.aload_n 2, 1) := by decide +kernel
theorem dX8_fits_78 : decode cX8_fits 78 = .ok (.iconst 0, 1) := by decide +kernel
theorem dX8_fits_79 : decode cX8_fits 79 = .ok (.invokevirtual 248, 3) := by decide +kernel
theorem dX8_fits_82 : decode cX8_fits 82 = .ok (.istore 4, 2) := by decide +kernel
theorem dX8_fits_84 : decode cX8_fits 84 = .ok (.iload_n 1, 1) := by decide +kernel
theorem dX8_fits_85 : decode cX8_fits 85 = .ok (.iconst 2, 1) := by decide +kernel
theorem dX8_fits_86 : decode cX8_fits 86 = .ok (.if_icmp .ne 19, 3) := by decide +kernel
theorem dX8_fits_89 : decode cX8_fits 89 = .ok (.aload_n 3, 1) := by decide +kernel
theorem dX8_fits_90 : decode cX8_fits 90 = .ok (.iload 4, 2) := by decide +kernel
theorem dX8_fits_92 : decode cX8_fits 92 = .ok (.aload_n 0, 1) := by decide +kernel
theorem dX8_fits_93 : decode cX8_fits 93 = .ok (.getfield 38, 3) := by decide +kernel
theorem dX8_fits_96 : decode cX8_fits 96 = .ok (.getfield 105, 3) := by decide +kernel
theorem dX8_fits_99 : decode cX8_fits 99 = .ok (.invokevirtual 251, 3) := by decide +kernel
theorem dX8_fits_102 : decode cX8_fits 102 = .ok (.goto 16, 3) := by decide +kernel
theorem dX8_fits_105 : decode cX8_fits 105 = .ok (.aload_n 3, 1) := by decide +kernel
theorem dX8_fits_106 : decode cX8_fits 106 = .ok (.iload 4, 2) := by decide +kernel
theorem dX8_fits_108 : decode cX8_fits 108 = .ok (.aload_n 0, 1) := by decide +kernel
theorem dX8_fits_109 : decode cX8_fits 109 = .ok (.getfield 38, 3) := by decide +kernel
theorem dX8_fits_112 : decode cX8_fits 112 = .ok (.getfield 105, 3) := by decide +kernel
theorem dX8_fits_115 : decode cX8_fits 115 = .ok (.invokevirtual 254, 3) := by decide +kernel
theorem dX8_fits_118 : decode cX8_fits 118 = .ok (.ireturn, 1) := by decide +kernel
def fX8_fits (sz : Nat) (g : PH) (a0 : Nat) (a1 : Int32) : Option (Int32 × PH × Nat × Nat) :=
  okb (isO g a0 8) (if a1 < 0 then (some ((-1 : Int32), g, 0, 0)) else
  (if (3 : Int32) < a1 then (some ((-1 : Int32), g, 0, 0)) else
  ((getR g a0 8 5).bind fun p3 =>
  ((getI g p3 3 6).bind fun x5 =>
  ((fX8_marchAt g a0 x5).bind fun (z8, g9) =>
  (z8.elim (some ((-1 : Int32), g9, 0, 0)) (fun p11 =>
  (fX8_gatheredSuspects sz g9 a0).bind fun (z13, g14, n16, n17) =>
  (bmp n16 n17 (if a1 = 0 then (z13.bind fun p53 =>
  ((getI g14 p53 5 0).bind fun x55 =>
  (some (x55, g14, 0, 0)))) else
  (z13.bind fun p23 =>
  ((getI g14 p23 5 0).bind fun x25 =>
  (if x25 = 0 then (some ((-2 : Int32), g14, 0, 0)) else
  (if a1 = (1 : Int32) then ((fX5_kindOf g14 p23 (0 : Int32)).bind fun q51 =>
  (some (q51.1, q51.2, 0, 0))) else
  ((fX5_kindOf g14 p23 (0 : Int32)).bind fun q29 =>
  ((fX8_kindAt q29.2 a0 q29.1).bind fun (z32, g33) =>
  (z32.elim (some ((-2 : Int32), g33, 0, 0)) (fun p35 =>
  (fX5_placementOf g33 p23 (0 : Int32)).bind fun q36 =>
  (if a1 = (2 : Int32) then ((getR q36.2 a0 8 5).bind fun p45 =>
  ((getI q36.2 p45 3 0).bind fun x47 =>
  ((fX1_aggressorOf q36.2 p35 q36.1 x47).bind fun q49 =>
  (some (q49.1, q49.2, 0, 0))))) else
  ((getR q36.2 a0 8 5).bind fun p39 =>
  ((getI q36.2 p39 3 0).bind fun x41 =>
  ((fX1_victimOf q36.2 p35 q36.1 x41).bind fun q43 =>
  (some (q43.1, q43.2, 0, 0)))))))))))))))))))))))
theorem oX8_fits {g : PH} {sz : Nat} {a0 : Nat} {a1 : Int32} {q : (Int32 × PH × Nat × Nat)} (h : fX8_fits sz g a0 a1 = some q) : isO g a0 8 = true := by unfold fX8_fits at h; exact (okb_some h).1
theorem hyX8_fits : hMet yX8_fits RX8 cX8_fits 5 (some .int) 1 := ⟨wd_932, wd_930, wd_931, wd_1, rfl, by decide +kernel, by decide +kernel, by decide +kernel⟩
set_option maxHeartbeats 4000000 in
set_option maxRecDepth 100000 in
theorem mX8_fits (l : Launch) (E : HE) (sz : Nat) {g g' : PH} {a0 : Nat} {a1 : Int32} {r : Int32} {mc ms : Nat} (hf : fX8_fits sz g a0 a1 = some (r, g', mc, ms)) : hM l E yX8_fits cX8_fits 5 (some .int) 6 156 mc ms sz g [.ref a0, .int a1] (some (.int r)) g' := by
  refine hM.of (by decide) (Nat.le_of_ble_eq_true rfl) (fun K hl C hin hsz => ?_)
  subst hl
  subst hsz
  have C : VC K E 5 cX8_fits RX8 (some .int) := C
  unfold fX8_fits at hf
  replace hf := okb_some hf
  obtain ⟨ho, hf⟩ := hf
  have hkS : K.2.2.2.1.heap.size = kS K := rfl
  have e1 : 0 + mc = mc := Nat.zero_add _
  have e2 : 0 + ms = ms := Nat.zero_add _
  have e3 : kS K = kS K + 0 := rfl
  refine V.start (L' := [(0, .ref a0), (1, .int a1)]) rfl ?_
  refine V.iload_n (pc := 0) C dX8_fits_0 1 rfl ?_
  refine V.if_lt (pc := 1) (t := 23) C dX8_fits_1 (by decide) (fun c1 => ?_) (fun c1 => ?_)
  · replace hf := ite_t c1 hf
    refine V.iconst (pc := 23) C dX8_fits_23 (v := (-1 : Int32)) (by decide) ?_
    obtain ⟨f1, f2, f3, f4⟩ := fin4 hf
    clear hf
    subst f1
    subst f2
    refine V.cast (c := mc) (s := ms) (by omega) (by omega) ?_
    exact V.iret (pc := 24) C (by omega) dX8_fits_24
  replace hf := ite_f c1 hf
  refine V.iload_n (pc := 4) C dX8_fits_4 1 rfl ?_
  refine V.iconst (pc := 5) C dX8_fits_5 (v := (3 : Int32)) (by decide) ?_
  refine V.icmp_gt (pc := 6) (t := 23) C dX8_fits_6 (by decide) (fun c2 => ?_) (fun c2 => ?_)
  · replace hf := ite_t c2 hf
    refine V.iconst (pc := 23) C dX8_fits_23 (v := (-1 : Int32)) (by decide) ?_
    obtain ⟨f1, f2, f3, f4⟩ := fin4 hf
    clear hf
    subst f1
    subst f2
    refine V.cast (c := mc) (s := ms) (by omega) (by omega) ?_
    exact V.iret (pc := 24) C (by omega) dX8_fits_24
  replace hf := ite_f c2 hf
  refine V.aload_n (pc := 9) C dX8_fits_9 0 rfl ?_
  refine V.aload_n (pc := 10) C dX8_fits_10 0 rfl ?_
  replace hf := ob_some hf
  obtain ⟨p3, h4, hf⟩ := hf
  refine V.getR (pc := 11) C kX8 (k := 5) (by decide) wd_193 h4 dX8_fits_11 ?_
  replace hf := ob_some hf
  obtain ⟨x5, h6, hf⟩ := hf
  refine V.getI (pc := 14) C kX3 (k := 6) (by decide) wd_72 h6 dX8_fits_14 ?_
  replace hf := ob_some hf
  obtain ⟨⟨z8, g9⟩, h10, hf⟩ := hf
  dsimp only at hf
  refine V.callV0q (pc := 17) C hyX8_marchAt wd_549 (mX8_marchAt (r := z8) (g' := g9) K.2.1 E ((kS K)) h10) rfl rfl rfl (oX8_marchAt h10) ⟨Nat.le_of_ble_eq_true rfl, Nat.le_of_ble_eq_true rfl⟩ (Nat.le_of_ble_eq_true rfl) dX8_fits_17 ⟨by show _ ≤ mc; omega, by show _ ≤ ms; omega⟩ rfl ?_
  rcases z8 with _ | p11
  · refine V.ifnonnullN (pc := 20) C dX8_fits_20 ?_
    refine V.iconst (pc := 23) C dX8_fits_23 (v := (-1 : Int32)) (by decide) ?_
    obtain ⟨f1, f2, f3, f4⟩ := fin4 hf
    clear hf
    subst f1
    subst f2
    refine V.cast (c := mc) (s := ms) (by omega) (by omega) ?_
    exact V.iret (pc := 24) C (by omega) dX8_fits_24
  refine V.ifnonnull (pc := 20) (t := 25) C dX8_fits_20 (by decide) ?_
  refine V.aload_n (pc := 25) C dX8_fits_25 0 rfl ?_
  replace hf := ob_some hf
  obtain ⟨⟨z13, g14, n16, n17⟩, h15, hf⟩ := hf
  dsimp only at hf
  replace hf := bmp_some hf
  obtain ⟨b18, b19, hf, h20, h21⟩ := hf
  refine V.callVq (pc := 26) C hyX8_gatheredSuspects wd_933 (mX8_gatheredSuspects (r := z13) (g' := g14) (mc := n16) (ms := n17) K.2.1 E ((kS K)) h15) rfl rfl rfl (oX8_gatheredSuspects h15) ⟨Nat.le_of_ble_eq_true rfl, Nat.le_of_ble_eq_true rfl⟩ (Nat.le_of_ble_eq_true rfl) dX8_fits_26 ⟨by show _ ≤ mc; omega, by show _ ≤ ms; omega⟩ rfl ?_
  refine V.astore_nQ (pc := 29) (L' := [(2, va_rf z13), (0, .ref a0), (1, .int a1)]) C (x := z13) dX8_fits_29 (by decide) rfl ?_
  refine V.iload_n (pc := 30) C dX8_fits_30 2 rfl ?_
  refine V.if_ne (pc := 31) (t := 39) C dX8_fits_31 (by decide) (fun c22 => ?_) (fun c22 => ?_)
  · replace hf := ite_f c22 hf
    refine V.aload_nQ (pc := 39) C dX8_fits_39 0 rfl ?_
    replace hf := ob_some hf
    obtain ⟨p23, h24, hf⟩ := hf
    subst h24
    replace hf := ob_some hf
    obtain ⟨x25, h26, hf⟩ := hf
    refine V.getI (pc := 40) C kX5 (k := 0) (by decide) wd_944 h26 dX8_fits_40 ?_
    refine V.if_ne (pc := 43) (t := 49) C dX8_fits_43 (by decide) (fun c27 => ?_) (fun c27 => ?_)
    · replace hf := ite_f c27 hf
      refine V.iload_n (pc := 49) C dX8_fits_49 2 rfl ?_
      refine V.iconst (pc := 50) C dX8_fits_50 (v := (1 : Int32)) (by decide) ?_
      refine V.icmp_ne (pc := 51) (t := 60) C dX8_fits_51 (by decide) (fun c28 => ?_) (fun c28 => ?_)
      · replace hf := ite_f c28 hf
        refine V.aload_n (pc := 60) C dX8_fits_60 1 rfl ?_
        refine V.aload_n (pc := 61) C dX8_fits_61 0 rfl ?_
        refine V.iconst (pc := 62) C dX8_fits_62 (v := (0 : Int32)) (by decide) ?_
        replace hf := ob_some hf
        obtain ⟨q29, h30, hf⟩ := hf
        refine V.callV0i (pc := 63) C hyX5_kindOf wd_985 (mX5_kindOf (r := q29.1) (g' := q29.2) K.2.1 E (((kS K) + n16)) h30) rfl rfl rfl (oX5_kindOf h30) ⟨Nat.le_of_ble_eq_true rfl, Nat.le_of_ble_eq_true rfl⟩ (Nat.le_of_ble_eq_true rfl) dX8_fits_63 ⟨by show _ ≤ mc; omega, by show _ ≤ ms; omega⟩ rfl ?_
        replace hf := ob_some hf
        obtain ⟨⟨z32, g33⟩, h34, hf⟩ := hf
        dsimp only at hf
        refine V.callV0q (pc := 66) C hyX8_kindAt wd_537 (mX8_kindAt (r := z32) (g' := g33) K.2.1 E (((kS K) + n16)) h34) rfl rfl rfl (oX8_kindAt h34) ⟨Nat.le_of_ble_eq_true rfl, Nat.le_of_ble_eq_true rfl⟩ (Nat.le_of_ble_eq_true rfl) dX8_fits_66 ⟨by show _ ≤ mc; omega, by show _ ≤ ms; omega⟩ rfl ?_
        refine V.astore_nQ (pc := 69) (L' := [(3, va_rf z32), (2, .ref p23), (0, .ref a0), (1, .int a1)]) C (x := z32) dX8_fits_69 (by decide) rfl ?_
        refine V.aload_nQ (pc := 70) C dX8_fits_70 0 rfl ?_
        rcases z32 with _ | p35
        · refine V.ifnonnullN (pc := 71) C dX8_fits_71 ?_
          refine V.bipush (pc := 74) C dX8_fits_74 (v := (-2 : Int32)) (by decide) ?_
          obtain ⟨f1, f2, f3, f4⟩ := fin4 hf
          clear hf
          subst f1
          subst f2
          refine V.cast (c := mc) (s := ms) (by omega) (by omega) ?_
          exact V.iret (pc := 76) C (by omega) dX8_fits_76
        refine V.ifnonnull (pc := 71) (t := 77) C dX8_fits_71 (by decide) ?_
        refine V.aload_n (pc := 77) C dX8_fits_77 1 rfl ?_
        refine V.iconst (pc := 78) C dX8_fits_78 (v := (0 : Int32)) (by decide) ?_
        replace hf := ob_some hf
        obtain ⟨q36, h37, hf⟩ := hf
        refine V.callV0i (pc := 79) C hyX5_placementOf wd_989 (mX5_placementOf (r := q36.1) (g' := q36.2) K.2.1 E (((kS K) + n16)) h37) rfl rfl rfl (oX5_placementOf h37) ⟨Nat.le_of_ble_eq_true rfl, Nat.le_of_ble_eq_true rfl⟩ (Nat.le_of_ble_eq_true rfl) dX8_fits_79 ⟨by show _ ≤ mc; omega, by show _ ≤ ms; omega⟩ rfl ?_
        refine V.istore (pc := 82) (L' := [(4, .int q36.1), (3, .ref p35), (2, .ref p23), (0, .ref a0), (1, .int a1)]) C dX8_fits_82 (by decide) rfl ?_
        refine V.iload_n (pc := 84) C dX8_fits_84 4 rfl ?_
        refine V.iconst (pc := 85) C dX8_fits_85 (v := (2 : Int32)) (by decide) ?_
        refine V.icmp_ne (pc := 86) (t := 105) C dX8_fits_86 (by decide) (fun c38 => ?_) (fun c38 => ?_)
        · replace hf := ite_f c38 hf
          refine V.aload_n (pc := 105) C dX8_fits_105 1 rfl ?_
          refine V.iload (pc := 106) C dX8_fits_106 0 rfl ?_
          refine V.aload_n (pc := 108) C dX8_fits_108 3 rfl ?_
          replace hf := ob_some hf
          obtain ⟨p39, h40, hf⟩ := hf
          refine V.getR (pc := 109) C kX8 (k := 5) (by decide) wd_193 h40 dX8_fits_109 ?_
          replace hf := ob_some hf
          obtain ⟨x41, h42, hf⟩ := hf
          refine V.getI (pc := 112) C kX3 (k := 0) (by decide) wd_60 h42 dX8_fits_112 ?_
          replace hf := ob_some hf
          obtain ⟨q43, h44, hf⟩ := hf
          refine V.callV0i (pc := 115) C hyX1_victimOf wd_635 (mX1_victimOf (r := q43.1) (g' := q43.2) K.2.1 E (((kS K) + n16)) h44) rfl rfl rfl (oX1_victimOf h44) ⟨Nat.le_of_ble_eq_true rfl, Nat.le_of_ble_eq_true rfl⟩ (Nat.le_of_ble_eq_true rfl) dX8_fits_115 ⟨by show _ ≤ mc; omega, by show _ ≤ ms; omega⟩ rfl ?_
          obtain ⟨f1, f2, f3, f4⟩ := fin4 hf
          clear hf
          subst f1
          subst f2
          refine V.cast (c := mc) (s := ms) (by omega) (by omega) ?_
          exact V.iret (pc := 118) C (by omega) dX8_fits_118
        replace hf := ite_t c38 hf
        refine V.aload_n (pc := 89) C dX8_fits_89 1 rfl ?_
        refine V.iload (pc := 90) C dX8_fits_90 0 rfl ?_
        refine V.aload_n (pc := 92) C dX8_fits_92 3 rfl ?_
        replace hf := ob_some hf
        obtain ⟨p45, h46, hf⟩ := hf
        refine V.getR (pc := 93) C kX8 (k := 5) (by decide) wd_193 h46 dX8_fits_93 ?_
        replace hf := ob_some hf
        obtain ⟨x47, h48, hf⟩ := hf
        refine V.getI (pc := 96) C kX3 (k := 0) (by decide) wd_60 h48 dX8_fits_96 ?_
        replace hf := ob_some hf
        obtain ⟨q49, h50, hf⟩ := hf
        refine V.callV0i (pc := 99) C hyX1_aggressorOf wd_630 (mX1_aggressorOf (r := q49.1) (g' := q49.2) K.2.1 E (((kS K) + n16)) h50) rfl rfl rfl (oX1_aggressorOf h50) ⟨Nat.le_of_ble_eq_true rfl, Nat.le_of_ble_eq_true rfl⟩ (Nat.le_of_ble_eq_true rfl) dX8_fits_99 ⟨by show _ ≤ mc; omega, by show _ ≤ ms; omega⟩ rfl ?_
        refine V.goto (pc := 102) (t := 118) C dX8_fits_102 (by decide) ?_
        obtain ⟨f1, f2, f3, f4⟩ := fin4 hf
        clear hf
        subst f1
        subst f2
        refine V.cast (c := mc) (s := ms) (by omega) (by omega) ?_
        exact V.iret (pc := 118) C (by omega) dX8_fits_118
      replace hf := ite_t c28 hf
      refine V.aload_n (pc := 54) C dX8_fits_54 0 rfl ?_
      refine V.iconst (pc := 55) C dX8_fits_55 (v := (0 : Int32)) (by decide) ?_
      replace hf := ob_some hf
      obtain ⟨q51, h52, hf⟩ := hf
      refine V.callV0i (pc := 56) C hyX5_kindOf wd_985 (mX5_kindOf (r := q51.1) (g' := q51.2) K.2.1 E (((kS K) + n16)) h52) rfl rfl rfl (oX5_kindOf h52) ⟨Nat.le_of_ble_eq_true rfl, Nat.le_of_ble_eq_true rfl⟩ (Nat.le_of_ble_eq_true rfl) dX8_fits_56 ⟨by show _ ≤ mc; omega, by show _ ≤ ms; omega⟩ rfl ?_
      obtain ⟨f1, f2, f3, f4⟩ := fin4 hf
      clear hf
      subst f1
      subst f2
      refine V.cast (c := mc) (s := ms) (by omega) (by omega) ?_
      exact V.iret (pc := 59) C (by omega) dX8_fits_59
    replace hf := ite_t c27 hf
    refine V.bipush (pc := 46) C dX8_fits_46 (v := (-2 : Int32)) (by decide) ?_
    obtain ⟨f1, f2, f3, f4⟩ := fin4 hf
    clear hf
    subst f1
    subst f2
    refine V.cast (c := mc) (s := ms) (by omega) (by omega) ?_
    exact V.iret (pc := 48) C (by omega) dX8_fits_48
  replace hf := ite_t c22 hf
  refine V.aload_nQ (pc := 34) C dX8_fits_34 0 rfl ?_
  replace hf := ob_some hf
  obtain ⟨p53, h54, hf⟩ := hf
  subst h54
  replace hf := ob_some hf
  obtain ⟨x55, h56, hf⟩ := hf
  refine V.getI (pc := 35) C kX5 (k := 0) (by decide) wd_944 h56 dX8_fits_35 ?_
  obtain ⟨f1, f2, f3, f4⟩ := fin4 hf
  clear hf
  subst f1
  subst f2
  refine V.cast (c := mc) (s := ms) (by omega) (by omega) ?_
  exact V.iret (pc := 38) C (by omega) dX8_fits_38
theorem dX8_greatestPart_0 : decode cX8_greatestPart 0 = .ok (.aload_n 0, 1) := by decide +kernel
theorem dX8_greatestPart_1 : decode cX8_greatestPart 1 = .ok (.iload_n 2, 1) := by decide +kernel
theorem dX8_greatestPart_2 : decode cX8_greatestPart 2 = .ok (.invokevirtual 112, 3) := by decide +kernel
theorem dX8_greatestPart_5 : decode cX8_greatestPart 5 = .ok (.astore_n 3, 1) := by decide +kernel
theorem dX8_greatestPart_6 : decode cX8_greatestPart 6 = .ok (.aload_n 1, 1) := by decide +kernel
theorem dX8_greatestPart_7 : decode cX8_greatestPart 7 = .ok (.iconst 0, 1) := by decide +kernel
theorem dX8_greatestPart_8 : decode cX8_greatestPart 8 = .ok (.putfield 335, 3) := by decide +kernel
theorem dX8_greatestPart_11 : decode cX8_greatestPart 11 = .ok (.iconst 0, 1) := by decide +kernel
theorem dX8_greatestPart_12 : decode cX8_greatestPart 12 = .ok (.istore 4, 2) := by decide +kernel
theorem dX8_greatestPart_14 : decode cX8_greatestPart 14 = .ok (.iconst 0, 1) := by decide +kernel
theorem dX8_greatestPart_15 : decode cX8_greatestPart 15 = .ok (.istore 5, 2) := by decide +kernel
theorem dX8_greatestPart_17 : decode cX8_greatestPart 17 = .ok (.iload 5, 2) := by decide +kernel
theorem dX8_greatestPart_19 : decode cX8_greatestPart 19 = .ok (.aload_n 1, 1) := by decide +kernel
theorem dX8_greatestPart_20 : decode cX8_greatestPart 20 = .ok (.getfield 242, 3) := by decide +kernel
theorem dX8_greatestPart_23 : decode cX8_greatestPart 23 = .ok (.if_icmp .ge 70, 3) := by decide +kernel
theorem dX8_greatestPart_26 : decode cX8_greatestPart 26 = .ok (.aload_n 0, 1) := by decide +kernel
theorem dX8_greatestPart_27 : decode cX8_greatestPart 27 = .ok (.aload_n 1, 1) := by decide +kernel
theorem dX8_greatestPart_28 : decode cX8_greatestPart 28 = .ok (.iload 5, 2) := by decide +kernel
theorem dX8_greatestPart_30 : decode cX8_greatestPart 30 = .ok (.invokevirtual 245, 3) := by decide +kernel
theorem dX8_greatestPart_33 : decode cX8_greatestPart 33 = .ok (.invokevirtual 94, 3) := by decide +kernel
theorem dX8_greatestPart_36 : decode cX8_greatestPart 36 = .ok (.astore 6, 2) := by decide +kernel
theorem dX8_greatestPart_38 : decode cX8_greatestPart 38 = .ok (.aload 6, 2) := by decide +kernel
theorem dX8_greatestPart_40 : decode cX8_greatestPart 40 = .ok (.ifnull 47, 3) := by decide +kernel
theorem dX8_greatestPart_43 : decode cX8_greatestPart 43 = .ok (.aload_n 3, 1) := by decide +kernel
theorem dX8_greatestPart_44 : decode cX8_greatestPart 44 = .ok (.ifnull 43, 3) := by decide +kernel
theorem dX8_greatestPart_47 : decode cX8_greatestPart 47 = .ok (.aload_n 0, 1) := by decide +kernel
theorem dX8_greatestPart_48 : decode cX8_greatestPart 48 = .ok (.aload 6, 2) := by decide +kernel
theorem dX8_greatestPart_50 : decode cX8_greatestPart 50 = .ok (.aload_n 1, 1) := by decide +kernel
theorem dX8_greatestPart_51 : decode cX8_greatestPart 51 = .ok (.iload 5, 2) := by decide +kernel
theorem dX8_greatestPart_53 : decode cX8_greatestPart 53 = .ok (.invokevirtual 248, 3) := by decide +kernel
theorem dX8_greatestPart_56 : decode cX8_greatestPart 56 = .ok (.invokevirtual 264, 3) := by decide +kernel
theorem dX8_greatestPart_59 : decode cX8_greatestPart 59 = .ok (.aload_n 0, 1) := by decide +kernel
theorem dX8_greatestPart_60 : decode cX8_greatestPart 60 = .ok (.getfield 52, 3) := by decide +kernel
theorem dX8_greatestPart_63 : decode cX8_greatestPart 63 = .ok (.aload 6, 2) := by decide +kernel
theorem dX8_greatestPart_65 : decode cX8_greatestPart 65 = .ok (.aload_n 3, 1) := by decide +kernel
theorem dX8_greatestPart_66 : decode cX8_greatestPart 66 = .ok (.iconst 0, 1) := by decide +kernel
theorem dX8_greatestPart_67 : decode cX8_greatestPart 67 = .ok (.iconst 0, 1) := by decide +kernel
theorem dX8_greatestPart_68 : decode cX8_greatestPart 68 = .ok (.invokevirtual 272, 3) := by decide +kernel
theorem dX8_greatestPart_71 : decode cX8_greatestPart 71 = .ok (.pop, 1) := by decide +kernel
theorem dX8_greatestPart_72 : decode cX8_greatestPart 72 = .ok (.iload 4, 2) := by decide +kernel
theorem dX8_greatestPart_74 : decode cX8_greatestPart 74 = .ok (.aload_n 1, 1) := by decide +kernel
theorem dX8_greatestPart_75 : decode cX8_greatestPart 75 = .ok (.aload_n 0, 1) := by decide +kernel
theorem dX8_greatestPart_76 : decode cX8_greatestPart 76 = .ok (.getfield 52, 3) := by decide +kernel
theorem dX8_greatestPart_79 : decode cX8_greatestPart 79 = .ok (.invokevirtual 338, 3) := by decide +kernel
theorem dX8_greatestPart_82 : decode cX8_greatestPart 82 = .ok (.invokestatic 342, 3) := by decide +kernel
theorem dX8_greatestPart_85 : decode cX8_greatestPart 85 = .ok (.istore 4, 2) := by decide +kernel
theorem dX8_greatestPart_87 : decode cX8_greatestPart 87 = .ok (.iinc 5 1, 3) := by decide +kernel
theorem dX8_greatestPart_90 : decode cX8_greatestPart 90 = .ok (.goto (-73), 3) := by decide +kernel
theorem dX8_greatestPart_93 : decode cX8_greatestPart 93 = .ok (.iload 4, 2) := by decide +kernel
theorem dX8_greatestPart_95 : decode cX8_greatestPart 95 = .ok (.ireturn, 1) := by decide +kernel
def fX8_greatestPart_87 (k17 : PH → Nat → Nat → Option Nat → Int32 → Int32 → Option (Int32 × PH)) (g : PH) (v0 : Nat) (v1 : Nat) (v3 : Option Nat) (v4 : Int32) (v5 : Int32) : Option (Int32 × PH) :=
  k17 g v0 v1 v3 v4 (v5 + (1 : Int32))
set_option maxHeartbeats 4000000 in
set_option maxRecDepth 100000 in
theorem bX8_greatestPart_87 {K : HK} {E : HE} {r : Int32} {g' : PH} {k17 : PH → Nat → Nat → Option Nat → Int32 → Int32 → Option (Int32 × PH)} (C : VC K E 7 cX8_greatestPart RX8 (some .int)) (hk17 : ∀ (g : PH) (v0 : Nat) (v1 : Nat) (v3 : Option Nat) (v4 : Int32) (v5 : Int32), k17 g v0 v1 v3 v4 v5 = some (r, g') → V K E (hRm 3 83 0 0) 7 (hZ K E (some (.int r)) g' 0 0) 0 0 (kS K) g 17 [(0, .ref v0), (1, .ref v1), (3, va_rf v3), (4, .int v4), (5, .int v5)] []) {g : PH} {v0 : Nat} {v1 : Nat} {v3 : Option Nat} {v4 : Int32} {v5 : Int32} (hf : fX8_greatestPart_87 k17 g v0 v1 v3 v4 v5 = some (r, g')) : V K E (hRm 3 83 0 0) 7 (hZ K E (some (.int r)) g' 0 0) 0 0 (kS K) g 87 [(0, .ref v0), (1, .ref v1), (3, va_rf v3), (4, .int v4), (5, .int v5)] [] := by
  unfold fX8_greatestPart_87 at hf
  refine V.iinc (pc := 87) (v := (v5 + (1 : Int32))) (L' := [(5, .int (v5 + (1 : Int32))), (0, .ref v0), (1, .ref v1), (3, va_rf v3), (4, .int v4)]) C dX8_greatestPart_87 4 rfl rfl (by decide) rfl ?_
  refine V.goto (pc := 90) (t := 17) C dX8_greatestPart_90 (by decide) ?_
  refine V.sub (L' := [(0, .ref v0), (1, .ref v1), (3, va_rf v3), (4, .int v4), (5, .int (v5 + (1 : Int32)))]) [1, 2, 3, 4, 0] rfl ?_
  exact hk17 _ _ _ _ _ _ hf
def fX8_greatestPart_17  : Nat → PH → Nat → Nat → Option Nat → Int32 → Int32 → Option (Int32 × PH)
  | 0, _, _, _, _, _, _ => none
  | n + 1, g, v0, v1, v3, v4, v5 =>
  (getI g v1 5 0).bind fun x1 =>
  (if x1 ≤ v5 then (some (v4, g)) else
  ((fX5_kindOf g v1 v5).bind fun q4 =>
  ((fX8_kindAt q4.2 v0 q4.1).bind fun (z7, g8) =>
  (z7.elim (fX8_greatestPart_87 (fX8_greatestPart_17 n) g8 v0 v1 v3 v4 v5) (fun p10 =>
  v3.elim (fX8_greatestPart_87 (fX8_greatestPart_17 n) g8 v0 v1 none v4 v5) (fun p11 =>
  (fX5_placementOf g8 v1 v5).bind fun q12 =>
  ((fX8_aim q12.2 v0 p10 q12.1).bind fun q14 =>
  ((getR q14.2 v0 8 7).bind fun p16 =>
  ((fX7_go q14.2 p16 p10 p11 (0 : Int32) (0 : Int32)).bind fun q18 =>
  ((getR q18.2 v0 8 7).bind fun p20 =>
  ((fX5_partWith q18.2 v1 p20).bind fun q22 =>
  (fX8_greatestPart_87 (fX8_greatestPart_17 n) q22.2 v0 v1 (some p11) (if v4 < q22.1 then q22.1 else v4) v5))))))))))))
set_option maxHeartbeats 4000000 in
set_option maxRecDepth 100000 in
theorem bX8_greatestPart_17 {K : HK} {E : HE} {r : Int32} {g' : PH}  (C : VC K E 7 cX8_greatestPart RX8 (some .int))  : ∀ (n : Nat) (g : PH) (v0 : Nat) (v1 : Nat) (v3 : Option Nat) (v4 : Int32) (v5 : Int32), fX8_greatestPart_17  n g v0 v1 v3 v4 v5 = some (r, g') → V K E (hRm 3 83 0 0) 7 (hZ K E (some (.int r)) g' 0 0) 0 0 (kS K) g 17 [(0, .ref v0), (1, .ref v1), (3, va_rf v3), (4, .int v4), (5, .int v5)] [] := by
  intro n
  induction n with
  | zero =>
    intro g v0 v1 v3 v4 v5 hf
    rw [fX8_greatestPart_17] at hf
    cases hf
  | succ n ih =>
    intro g v0 v1 v3 v4 v5 hf
    rw [fX8_greatestPart_17] at hf
    refine V.iload (pc := 17) C dX8_greatestPart_17 4 rfl ?_
    refine V.aload_n (pc := 19) C dX8_greatestPart_19 1 rfl ?_
    replace hf := ob_some hf
    obtain ⟨x1, h2, hf⟩ := hf
    refine V.getI (pc := 20) C kX5 (k := 0) (by decide) wd_944 h2 dX8_greatestPart_20 ?_
    refine V.icmp_ge (pc := 23) (t := 93) C dX8_greatestPart_23 (by decide) (fun c3 => ?_) (fun c3 => ?_)
    · replace hf := ite_t c3 hf
      refine V.iload (pc := 93) C dX8_greatestPart_93 3 rfl ?_
      obtain ⟨f1, f2⟩ := fin2 hf
      clear hf
      subst f1
      subst f2
      exact V.iret (pc := 95) C rfl dX8_greatestPart_95
    replace hf := ite_f c3 hf
    refine V.aload_n (pc := 26) C dX8_greatestPart_26 0 rfl ?_
    refine V.aload_n (pc := 27) C dX8_greatestPart_27 1 rfl ?_
    refine V.iload (pc := 28) C dX8_greatestPart_28 4 rfl ?_
    replace hf := ob_some hf
    obtain ⟨q4, h5, hf⟩ := hf
    refine V.callV0i (pc := 30) C hyX5_kindOf wd_985 (mX5_kindOf (r := q4.1) (g' := q4.2) K.2.1 E (kS K) h5) rfl rfl rfl (oX5_kindOf h5) ⟨Nat.le_of_ble_eq_true rfl, Nat.le_of_ble_eq_true rfl⟩ (Nat.le_of_ble_eq_true rfl) dX8_greatestPart_30 ⟨Nat.zero_le _, Nat.zero_le _⟩ rfl ?_
    replace hf := ob_some hf
    obtain ⟨⟨z7, g8⟩, h9, hf⟩ := hf
    dsimp only at hf
    refine V.callV0q (pc := 33) C hyX8_kindAt wd_537 (mX8_kindAt (r := z7) (g' := g8) K.2.1 E (kS K) h9) rfl rfl rfl (oX8_kindAt h9) ⟨Nat.le_of_ble_eq_true rfl, Nat.le_of_ble_eq_true rfl⟩ (Nat.le_of_ble_eq_true rfl) dX8_greatestPart_33 ⟨Nat.zero_le _, Nat.zero_le _⟩ rfl ?_
    refine V.astoreQ (pc := 36) (L' := [(6, va_rf z7), (0, .ref v0), (1, .ref v1), (3, va_rf v3), (4, .int v4), (5, .int v5)]) C (x := z7) dX8_greatestPart_36 (by decide) rfl ?_
    refine V.aloadQ (pc := 38) C dX8_greatestPart_38 0 rfl ?_
    rcases z7 with _ | p10
    · refine V.ifnullN (pc := 40) (t := 87) C dX8_greatestPart_40 (by decide) ?_
      refine V.sub (L' := [(0, .ref v0), (1, .ref v1), (3, va_rf v3), (4, .int v4), (5, .int v5)]) [1, 2, 3, 4, 5] rfl ?_
      exact bX8_greatestPart_87 C ih hf
    refine V.ifnull (pc := 40) C dX8_greatestPart_40 ?_
    refine V.aload_nQ (pc := 43) C dX8_greatestPart_43 3 rfl ?_
    rcases v3 with _ | p11
    · refine V.ifnullN (pc := 44) (t := 87) C dX8_greatestPart_44 (by decide) ?_
      refine V.sub (L' := [(0, .ref v0), (1, .ref v1), (3, va_rf none), (4, .int v4), (5, .int v5)]) [1, 2, 3, 4, 5] rfl ?_
      exact bX8_greatestPart_87 C ih hf
    refine V.ifnull (pc := 44) C dX8_greatestPart_44 ?_
    refine V.aload_n (pc := 47) C dX8_greatestPart_47 1 rfl ?_
    refine V.aload (pc := 48) C dX8_greatestPart_48 0 rfl ?_
    refine V.aload_n (pc := 50) C dX8_greatestPart_50 2 rfl ?_
    refine V.iload (pc := 51) C dX8_greatestPart_51 5 rfl ?_
    replace hf := ob_some hf
    obtain ⟨q12, h13, hf⟩ := hf
    refine V.callV0i (pc := 53) C hyX5_placementOf wd_989 (mX5_placementOf (r := q12.1) (g' := q12.2) K.2.1 E (kS K) h13) rfl rfl rfl (oX5_placementOf h13) ⟨Nat.le_of_ble_eq_true rfl, Nat.le_of_ble_eq_true rfl⟩ (Nat.le_of_ble_eq_true rfl) dX8_greatestPart_53 ⟨Nat.zero_le _, Nat.zero_le _⟩ rfl ?_
    replace hf := ob_some hf
    obtain ⟨q14, h15, hf⟩ := hf
    refine V.callV0v (pc := 56) C hyX8_aim wd_643 (mX8_aim (r := q14.1) (g' := q14.2) K.2.1 E (kS K) h15) rfl rfl rfl (oX8_aim h15) ⟨Nat.le_of_ble_eq_true rfl, Nat.le_of_ble_eq_true rfl⟩ (Nat.le_of_ble_eq_true rfl) dX8_greatestPart_56 ⟨Nat.zero_le _, Nat.zero_le _⟩ rfl ?_
    refine V.aload_n (pc := 59) C dX8_greatestPart_59 1 rfl ?_
    replace hf := ob_some hf
    obtain ⟨p16, h17, hf⟩ := hf
    refine V.getR (pc := 60) C kX8 (k := 7) (by decide) wd_195 h17 dX8_greatestPart_60 ?_
    refine V.aload (pc := 63) C dX8_greatestPart_63 0 rfl ?_
    refine V.aload_n (pc := 65) C dX8_greatestPart_65 3 rfl ?_
    refine V.iconst (pc := 66) C dX8_greatestPart_66 (v := (0 : Int32)) (by decide) ?_
    refine V.iconst (pc := 67) C dX8_greatestPart_67 (v := (0 : Int32)) (by decide) ?_
    replace hf := ob_some hf
    obtain ⟨q18, h19, hf⟩ := hf
    refine V.callV0i (pc := 68) C hyX7_go wd_594 (mX7_go (r := q18.1) (g' := q18.2) K.2.1 E (kS K) h19) rfl rfl rfl (oX7_go h19) ⟨Nat.le_of_ble_eq_true rfl, Nat.le_of_ble_eq_true rfl⟩ (Nat.le_of_ble_eq_true rfl) dX8_greatestPart_68 ⟨Nat.zero_le _, Nat.zero_le _⟩ rfl ?_
    refine V.pop (pc := 71) C dX8_greatestPart_71 rfl ?_
    refine V.iload (pc := 72) C dX8_greatestPart_72 4 rfl ?_
    refine V.aload_n (pc := 74) C dX8_greatestPart_74 2 rfl ?_
    refine V.aload_n (pc := 75) C dX8_greatestPart_75 1 rfl ?_
    replace hf := ob_some hf
    obtain ⟨p20, h21, hf⟩ := hf
    refine V.getR (pc := 76) C kX8 (k := 7) (by decide) wd_195 h21 dX8_greatestPart_76 ?_
    replace hf := ob_some hf
    obtain ⟨q22, h23, hf⟩ := hf
    refine V.callV0i (pc := 79) C hyX5_partWith wd_1001 (mX5_partWith (r := q22.1) (g' := q22.2) K.2.1 E (kS K) h23) rfl rfl rfl (oX5_partWith h23) ⟨Nat.le_of_ble_eq_true rfl, Nat.le_of_ble_eq_true rfl⟩ (Nat.le_of_ble_eq_true rfl) dX8_greatestPart_79 ⟨Nat.zero_le _, Nat.zero_le _⟩ rfl ?_
    refine V.mmax (pc := 82) C wd_1015 wd_163 wd_6 wd_164 ⟨Nat.le_of_ble_eq_true rfl, Nat.le_of_ble_eq_true rfl⟩ (Nat.le_of_ble_eq_true rfl) ⟨Nat.zero_le _, Nat.zero_le _⟩ dX8_greatestPart_82 ?_
    refine V.istore (pc := 85) (L' := [(4, .int (if v4 < q22.1 then q22.1 else v4)), (6, .ref p10), (0, .ref v0), (1, .ref v1), (3, .ref p11), (5, .int v5)]) C dX8_greatestPart_85 (by decide) rfl ?_
    refine V.sub (L' := [(0, .ref v0), (1, .ref v1), (3, va_rf (some p11)), (4, .int (if v4 < q22.1 then q22.1 else v4)), (5, .int v5)]) [2, 3, 4, 0, 5] rfl ?_
    exact bX8_greatestPart_87 C ih hf
def fX8_greatestPart (g : PH) (a0 : Nat) (a1 : Nat) (a2 : Int32) : Option (Int32 × PH) :=
  okb (isO g a0 8) ((fX8_marchAt g a0 a2).bind fun (z2, g3) =>
  ((putV g3 a1 5 1 (.int (0 : Int32))).bind fun g5 =>
  (fX8_greatestPart_17 FUEL g5 a0 a1 z2 (0 : Int32) (0 : Int32))))
theorem oX8_greatestPart {g : PH} {a0 : Nat} {a1 : Nat} {a2 : Int32} {q : (Int32 × PH)} (h : fX8_greatestPart g a0 a1 a2 = some q) : isO g a0 8 = true := by unfold fX8_greatestPart at h; exact (okb_some h).1
theorem hyX8_greatestPart : hMet yX8_greatestPart RX8 cX8_greatestPart 7 (some .int) 2 := ⟨wd_1000, wd_999, ws_45, wd_1, rfl, by decide +kernel, by decide +kernel, by decide +kernel⟩
set_option maxHeartbeats 4000000 in
set_option maxRecDepth 100000 in
theorem mX8_greatestPart (l : Launch) (E : HE) (sz : Nat) {g g' : PH} {a0 : Nat} {a1 : Nat} {a2 : Int32} {r : Int32} (hf : fX8_greatestPart g a0 a1 a2 = some (r, g')) : hM l E yX8_greatestPart cX8_greatestPart 7 (some .int) 3 83 0 0 sz g [.ref a0, .ref a1, .int a2] (some (.int r)) g' := by
  refine hM.of (by decide) (Nat.le_of_ble_eq_true rfl) (fun K hl C hin hsz => ?_)
  subst hl
  subst hsz
  have C : VC K E 7 cX8_greatestPart RX8 (some .int) := C
  unfold fX8_greatestPart at hf
  replace hf := okb_some hf
  obtain ⟨ho, hf⟩ := hf
  refine V.start (L' := [(0, .ref a0), (1, .ref a1), (2, .int a2)]) rfl ?_
  refine V.aload_n (pc := 0) C dX8_greatestPart_0 0 rfl ?_
  refine V.iload_n (pc := 1) C dX8_greatestPart_1 2 rfl ?_
  replace hf := ob_some hf
  obtain ⟨⟨z2, g3⟩, h4, hf⟩ := hf
  dsimp only at hf
  refine V.callV0q (pc := 2) C hyX8_marchAt wd_549 (mX8_marchAt (r := z2) (g' := g3) K.2.1 E (kS K) h4) rfl rfl rfl (oX8_marchAt h4) ⟨Nat.le_of_ble_eq_true rfl, Nat.le_of_ble_eq_true rfl⟩ (Nat.le_of_ble_eq_true rfl) dX8_greatestPart_2 ⟨Nat.zero_le _, Nat.zero_le _⟩ rfl ?_
  refine V.astore_nQ (pc := 5) (L' := [(3, va_rf z2), (0, .ref a0), (1, .ref a1), (2, .int a2)]) C (x := z2) dX8_greatestPart_5 (by decide) rfl ?_
  refine V.aload_n (pc := 6) C dX8_greatestPart_6 2 rfl ?_
  refine V.iconst (pc := 7) C dX8_greatestPart_7 (v := (0 : Int32)) (by decide) ?_
  replace hf := ob_some hf
  obtain ⟨g5, h6, hf⟩ := hf
  refine V.putX (pc := 8) C kX5 (k := 1) (by decide) wd_946 rfl rfl rfl h6 dX8_greatestPart_8 ?_
  refine V.iconst (pc := 11) C dX8_greatestPart_11 (v := (0 : Int32)) (by decide) ?_
  refine V.istore (pc := 12) (L' := [(4, .int (0 : Int32)), (3, va_rf z2), (0, .ref a0), (1, .ref a1), (2, .int a2)]) C dX8_greatestPart_12 (by decide) (by cases z2 <;> rfl) ?_
  refine V.iconst (pc := 14) C dX8_greatestPart_14 (v := (0 : Int32)) (by decide) ?_
  refine V.istore (pc := 15) (L' := [(5, .int (0 : Int32)), (4, .int (0 : Int32)), (3, va_rf z2), (0, .ref a0), (1, .ref a1), (2, .int a2)]) C dX8_greatestPart_15 (by decide) rfl ?_
  refine V.sub (L' := [(0, .ref a0), (1, .ref a1), (3, va_rf z2), (4, .int (0 : Int32)), (5, .int (0 : Int32))]) [3, 4, 2, 1, 0] rfl ?_
  exact bX8_greatestPart_17 C  _ _ _ _ _ _ _ hf
theorem dX8_parts_0 : decode cX8_parts 0 = .ok (.aload_n 0, 1) := by decide +kernel
theorem dX8_parts_1 : decode cX8_parts 1 = .ok (.iload_n 1, 1) := by decide +kernel
theorem dX8_parts_2 : decode cX8_parts 2 = .ok (.invokevirtual 112, 3) := by decide +kernel
theorem dX8_parts_5 : decode cX8_parts 5 = .ok (.ifnull 17, 3) := by decide +kernel
theorem dX8_parts_8 : decode cX8_parts 8 = .ok (.aload_n 0, 1) := by decide +kernel
theorem dX8_parts_9 : decode cX8_parts 9 = .ok (.aload_n 0, 1) := by decide +kernel
theorem dX8_parts_10 : decode cX8_parts 10 = .ok (.getfield 38, 3) := by decide +kernel
theorem dX8_parts_13 : decode cX8_parts 13 = .ok (.getfield 235, 3) := by decide +kernel
theorem dX8_parts_16 : decode cX8_parts 16 = .ok (.invokevirtual 112, 3) := by decide +kernel
theorem dX8_parts_19 : decode cX8_parts 19 = .ok (.ifnonnull 5, 3) := by decide +kernel
theorem dX8_parts_22 : decode cX8_parts 22 = .ok (.iconst (-1), 1) := by decide +kernel
theorem dX8_parts_23 : decode cX8_parts 23 = .ok (.ireturn, 1) := by decide +kernel
theorem dX8_parts_24 : decode cX8_parts 24 = .ok (.aload_n 0, 1) := by decide +kernel
theorem dX8_parts_25 : decode cX8_parts 25 = .ok (.aload_n 0, 1) := by decide +kernel
theorem dX8_parts_26 : decode cX8_parts 26 = .ok (.invokevirtual 238, 3) := by decide +kernel
theorem dX8_parts_29 : decode cX8_parts 29 = .ok (.iload_n 1, 1) := by decide +kernel
theorem dX8_parts_30 : decode cX8_parts 30 = .ok (.invokevirtual 257, 3) := by decide +kernel
theorem dX8_parts_33 : decode cX8_parts 33 = .ok (.ireturn, 1) := by decide +kernel
def fX8_parts (sz : Nat) (g : PH) (a0 : Nat) (a1 : Int32) : Option (Int32 × PH × Nat × Nat) :=
  okb (isO g a0 8) ((fX8_marchAt g a0 a1).bind fun (z2, g3) =>
  (z2.elim (some ((-1 : Int32), g3, 0, 0)) (fun p5 =>
  (getR g3 a0 8 5).bind fun p6 =>
  ((getI g3 p6 3 6).bind fun x8 =>
  ((fX8_marchAt g3 a0 x8).bind fun (z11, g12) =>
  (z11.elim (some ((-1 : Int32), g12, 0, 0)) (fun p14 =>
  (fX8_gatheredSuspects sz g12 a0).bind fun (z16, g17, n19, n20) =>
  (bmp n19 n20 (z16.bind fun p25 =>
  ((fX8_greatestPart g17 a0 p25 a1).bind fun q27 =>
  (some (q27.1, q27.2, 0, 0))))))))))))
theorem oX8_parts {g : PH} {sz : Nat} {a0 : Nat} {a1 : Int32} {q : (Int32 × PH × Nat × Nat)} (h : fX8_parts sz g a0 a1 = some q) : isO g a0 8 = true := by unfold fX8_parts at h; exact (okb_some h).1
theorem hyX8_parts : hMet yX8_parts RX8 cX8_parts 2 (some .int) 1 := ⟨wd_996, wd_994, wd_995, wd_1, rfl, by decide +kernel, by decide +kernel, by decide +kernel⟩
set_option maxHeartbeats 4000000 in
set_option maxRecDepth 100000 in
theorem mX8_parts (l : Launch) (E : HE) (sz : Nat) {g g' : PH} {a0 : Nat} {a1 : Int32} {r : Int32} {mc ms : Nat} (hf : fX8_parts sz g a0 a1 = some (r, g', mc, ms)) : hM l E yX8_parts cX8_parts 2 (some .int) 6 156 mc ms sz g [.ref a0, .int a1] (some (.int r)) g' := by
  refine hM.of (by decide) (Nat.le_of_ble_eq_true rfl) (fun K hl C hin hsz => ?_)
  subst hl
  subst hsz
  have C : VC K E 2 cX8_parts RX8 (some .int) := C
  unfold fX8_parts at hf
  replace hf := okb_some hf
  obtain ⟨ho, hf⟩ := hf
  have hkS : K.2.2.2.1.heap.size = kS K := rfl
  have e1 : 0 + mc = mc := Nat.zero_add _
  have e2 : 0 + ms = ms := Nat.zero_add _
  have e3 : kS K = kS K + 0 := rfl
  refine V.start (L' := [(0, .ref a0), (1, .int a1)]) rfl ?_
  refine V.aload_n (pc := 0) C dX8_parts_0 0 rfl ?_
  refine V.iload_n (pc := 1) C dX8_parts_1 1 rfl ?_
  replace hf := ob_some hf
  obtain ⟨⟨z2, g3⟩, h4, hf⟩ := hf
  dsimp only at hf
  refine V.callV0q (pc := 2) C hyX8_marchAt wd_549 (mX8_marchAt (r := z2) (g' := g3) K.2.1 E ((kS K)) h4) rfl rfl rfl (oX8_marchAt h4) ⟨Nat.le_of_ble_eq_true rfl, Nat.le_of_ble_eq_true rfl⟩ (Nat.le_of_ble_eq_true rfl) dX8_parts_2 ⟨by show _ ≤ mc; omega, by show _ ≤ ms; omega⟩ rfl ?_
  rcases z2 with _ | p5
  · refine V.ifnullN (pc := 5) (t := 22) C dX8_parts_5 (by decide) ?_
    refine V.iconst (pc := 22) C dX8_parts_22 (v := (-1 : Int32)) (by decide) ?_
    obtain ⟨f1, f2, f3, f4⟩ := fin4 hf
    clear hf
    subst f1
    subst f2
    refine V.cast (c := mc) (s := ms) (by omega) (by omega) ?_
    exact V.iret (pc := 23) C (by omega) dX8_parts_23
  refine V.ifnull (pc := 5) C dX8_parts_5 ?_
  refine V.aload_n (pc := 8) C dX8_parts_8 0 rfl ?_
  refine V.aload_n (pc := 9) C dX8_parts_9 0 rfl ?_
  replace hf := ob_some hf
  obtain ⟨p6, h7, hf⟩ := hf
  refine V.getR (pc := 10) C kX8 (k := 5) (by decide) wd_193 h7 dX8_parts_10 ?_
  replace hf := ob_some hf
  obtain ⟨x8, h9, hf⟩ := hf
  refine V.getI (pc := 13) C kX3 (k := 6) (by decide) wd_72 h9 dX8_parts_13 ?_
  replace hf := ob_some hf
  obtain ⟨⟨z11, g12⟩, h13, hf⟩ := hf
  dsimp only at hf
  refine V.callV0q (pc := 16) C hyX8_marchAt wd_549 (mX8_marchAt (r := z11) (g' := g12) K.2.1 E ((kS K)) h13) rfl rfl rfl (oX8_marchAt h13) ⟨Nat.le_of_ble_eq_true rfl, Nat.le_of_ble_eq_true rfl⟩ (Nat.le_of_ble_eq_true rfl) dX8_parts_16 ⟨by show _ ≤ mc; omega, by show _ ≤ ms; omega⟩ rfl ?_
  rcases z11 with _ | p14
  · refine V.ifnonnullN (pc := 19) C dX8_parts_19 ?_
    refine V.iconst (pc := 22) C dX8_parts_22 (v := (-1 : Int32)) (by decide) ?_
    obtain ⟨f1, f2, f3, f4⟩ := fin4 hf
    clear hf
    subst f1
    subst f2
    refine V.cast (c := mc) (s := ms) (by omega) (by omega) ?_
    exact V.iret (pc := 23) C (by omega) dX8_parts_23
  refine V.ifnonnull (pc := 19) (t := 24) C dX8_parts_19 (by decide) ?_
  refine V.aload_n (pc := 24) C dX8_parts_24 0 rfl ?_
  refine V.aload_n (pc := 25) C dX8_parts_25 0 rfl ?_
  replace hf := ob_some hf
  obtain ⟨⟨z16, g17, n19, n20⟩, h18, hf⟩ := hf
  dsimp only at hf
  replace hf := bmp_some hf
  obtain ⟨b21, b22, hf, h23, h24⟩ := hf
  refine V.callVq (pc := 26) C hyX8_gatheredSuspects wd_933 (mX8_gatheredSuspects (r := z16) (g' := g17) (mc := n19) (ms := n20) K.2.1 E ((kS K)) h18) rfl rfl rfl (oX8_gatheredSuspects h18) ⟨Nat.le_of_ble_eq_true rfl, Nat.le_of_ble_eq_true rfl⟩ (Nat.le_of_ble_eq_true rfl) dX8_parts_26 ⟨by show _ ≤ mc; omega, by show _ ≤ ms; omega⟩ rfl ?_
  refine V.iload_n (pc := 29) C dX8_parts_29 1 rfl ?_
  replace hf := ob_some hf
  obtain ⟨p25, h26, hf⟩ := hf
  subst h26
  replace hf := ob_some hf
  obtain ⟨q27, h28, hf⟩ := hf
  refine V.callV0i (pc := 30) C hyX8_greatestPart wd_997 (mX8_greatestPart (r := q27.1) (g' := q27.2) K.2.1 E (((kS K) + n19)) h28) rfl rfl rfl (oX8_greatestPart h28) ⟨Nat.le_of_ble_eq_true rfl, Nat.le_of_ble_eq_true rfl⟩ (Nat.le_of_ble_eq_true rfl) dX8_parts_30 ⟨by show _ ≤ mc; omega, by show _ ≤ ms; omega⟩ rfl ?_
  obtain ⟨f1, f2, f3, f4⟩ := fin4 hf
  clear hf
  subst f1
  subst f2
  refine V.cast (c := mc) (s := ms) (by omega) (by omega) ?_
  exact V.iret (pc := 33) C (by omega) dX8_parts_33
theorem dX8_ask_0 : decode cX8_ask 0 = .ok (.aload_n 0, 1) := by decide +kernel
theorem dX8_ask_1 : decode cX8_ask 1 = .ok (.aload_n 0, 1) := by decide +kernel
theorem dX8_ask_2 : decode cX8_ask 2 = .ok (.getfield 38, 3) := by decide +kernel
theorem dX8_ask_5 : decode cX8_ask 5 = .ok (.getfield 235, 3) := by decide +kernel
theorem dX8_ask_8 : decode cX8_ask 8 = .ok (.invokevirtual 112, 3) := by decide +kernel
theorem dX8_ask_11 : decode cX8_ask 11 = .ok (.ifnonnull 5, 3) := by decide +kernel
theorem dX8_ask_14 : decode cX8_ask 14 = .ok (.iconst (-1), 1) := by decide +kernel
theorem dX8_ask_15 : decode cX8_ask 15 = .ok (.ireturn, 1) := by decide +kernel
theorem dX8_ask_16 : decode cX8_ask 16 = .ok (.aload_n 0, 1) := by decide +kernel
theorem dX8_ask_17 : decode cX8_ask 17 = .ok (.invokevirtual 238, 3) := by decide +kernel
theorem dX8_ask_20 : decode cX8_ask 20 = .ok (.astore_n 1, 1) := by decide +kernel
theorem dX8_ask_21 : decode cX8_ask 21 = .ok (.iconst 0, 1) := by decide +kernel
theorem dX8_ask_22 : decode cX8_ask 22 = .ok (.istore_n 2, 1) := by decide +kernel
theorem dX8_ask_23 : decode cX8_ask 23 = .ok (.aload_n 0, 1) := by decide +kernel
theorem dX8_ask_24 : decode cX8_ask 24 = .ok (.aload_n 1, 1) := by decide +kernel
theorem dX8_ask_25 : decode cX8_ask 25 = .ok (.iconst 0, 1) := by decide +kernel
theorem dX8_ask_26 : decode cX8_ask 26 = .ok (.invokevirtual 257, 3) := by decide +kernel
theorem dX8_ask_29 : decode cX8_ask 29 = .ok (.istore_n 3, 1) := by decide +kernel
theorem dX8_ask_30 : decode cX8_ask 30 = .ok (.iconst 1, 1) := by decide +kernel
theorem dX8_ask_31 : decode cX8_ask 31 = .ok (.istore 4, 2) := by decide +kernel
theorem dX8_ask_33 : decode cX8_ask 33 = .ok (.iload 4, 2) := by decide +kernel
theorem dX8_ask_35 : decode cX8_ask 35 = .ok (.aload_n 0, 1) := by decide +kernel
theorem dX8_ask_36 : decode cX8_ask 36 = .ok (.getfield 32, 3) := by decide +kernel
theorem dX8_ask_39 : decode cX8_ask 39 = .ok (.if_icmp .ge 30, 3) := by decide +kernel
theorem dX8_ask_42 : decode cX8_ask 42 = .ok (.aload_n 0, 1) := by decide +kernel
theorem dX8_ask_43 : decode cX8_ask 43 = .ok (.aload_n 1, 1) := by decide +kernel
theorem dX8_ask_44 : decode cX8_ask 44 = .ok (.iload 4, 2) := by decide +kernel
theorem dX8_ask_46 : decode cX8_ask 46 = .ok (.invokevirtual 257, 3) := by decide +kernel
theorem dX8_ask_49 : decode cX8_ask 49 = .ok (.istore 5, 2) := by decide +kernel
theorem dX8_ask_51 : decode cX8_ask 51 = .ok (.iload 5, 2) := by decide +kernel
theorem dX8_ask_53 : decode cX8_ask 53 = .ok (.iload_n 3, 1) := by decide +kernel
theorem dX8_ask_54 : decode cX8_ask 54 = .ok (.if_icmp .ge 9, 3) := by decide +kernel
theorem dX8_ask_57 : decode cX8_ask 57 = .ok (.iload 4, 2) := by decide +kernel
theorem dX8_ask_59 : decode cX8_ask 59 = .ok (.istore_n 2, 1) := by decide +kernel
theorem dX8_ask_60 : decode cX8_ask 60 = .ok (.iload 5, 2) := by decide +kernel
theorem dX8_ask_62 : decode cX8_ask 62 = .ok (.istore_n 3, 1) := by decide +kernel
theorem dX8_ask_63 : decode cX8_ask 63 = .ok (.iinc 4 1, 3) := by decide +kernel
theorem dX8_ask_66 : decode cX8_ask 66 = .ok (.goto (-33), 3) := by decide +kernel
theorem dX8_ask_69 : decode cX8_ask 69 = .ok (.iload_n 2, 1) := by decide +kernel
theorem dX8_ask_70 : decode cX8_ask 70 = .ok (.ireturn, 1) := by decide +kernel
def fX8_ask_63 (k33 : PH → Nat → Nat → Nat → Int32 → Int32 → Int32 → Option (Int32 × PH × Nat × Nat)) (g : PH) (sz : Nat) (v0 : Nat) (v1 : Nat) (v2 : Int32) (v3 : Int32) (v4 : Int32) : Option (Int32 × PH × Nat × Nat) :=
  k33 g sz v0 v1 v2 v3 (v4 + (1 : Int32))
set_option maxHeartbeats 4000000 in
set_option maxRecDepth 100000 in
theorem bX8_ask_63 {K : HK} {E : HE} {r : Int32} {g' : PH} {mc ms : Nat} {k33 : PH → Nat → Nat → Nat → Int32 → Int32 → Int32 → Option (Int32 × PH × Nat × Nat)} (C : VC K E 6 cX8_ask RX8 (some .int)) (hk33 : ∀ (g : PH) (sz : Nat) (v0 : Nat) (v1 : Nat) (v2 : Int32) (v3 : Int32) (v4 : Int32) (u1 u2 cs sl : Nat), k33 g sz v0 v1 v2 v3 v4 = some (r, g', u1, u2) → cs + u1 = mc → sl + u2 = ms → sz = kS K + cs → V K E (hRm 6 156 mc ms) 6 (hZ K E (some (.int r)) g' mc ms) cs sl sz g 33 [(0, .ref v0), (1, .ref v1), (2, .int v2), (3, .int v3), (4, .int v4)] []) {g : PH} {sz : Nat} {v0 : Nat} {v1 : Nat} {v2 : Int32} {v3 : Int32} {v4 : Int32} {u1 u2 cs sl : Nat} (hf : fX8_ask_63 k33 g sz v0 v1 v2 v3 v4 = some (r, g', u1, u2)) (e1 : cs + u1 = mc) (e2 : sl + u2 = ms) (e3 : sz = kS K + cs) : V K E (hRm 6 156 mc ms) 6 (hZ K E (some (.int r)) g' mc ms) cs sl sz g 63 [(0, .ref v0), (1, .ref v1), (2, .int v2), (3, .int v3), (4, .int v4)] [] := by
  have hkS : K.2.2.2.1.heap.size = kS K := rfl
  unfold fX8_ask_63 at hf
  refine V.iinc (pc := 63) (v := (v4 + (1 : Int32))) (L' := [(4, .int (v4 + (1 : Int32))), (0, .ref v0), (1, .ref v1), (2, .int v2), (3, .int v3)]) C dX8_ask_63 4 rfl rfl (by decide) rfl ?_
  refine V.goto (pc := 66) (t := 33) C dX8_ask_66 (by decide) ?_
  refine V.sub (L' := [(0, .ref v0), (1, .ref v1), (2, .int v2), (3, .int v3), (4, .int (v4 + (1 : Int32)))]) [1, 2, 3, 4, 0] rfl ?_
  exact hk33 _ _ _ _ _ _ _ _ _ _ _ hf (by omega) (by omega) (by omega)
def fX8_ask_33  : Nat → PH → Nat → Nat → Nat → Int32 → Int32 → Int32 → Option (Int32 × PH × Nat × Nat)
  | 0, _, _, _, _, _, _, _ => none
  | n + 1, g, sz, v0, v1, v2, v3, v4 =>
  (getI g v0 8 4).bind fun x1 =>
  (if x1 ≤ v4 then (some (v2, g, 0, 0)) else
  ((fX8_greatestPart g v0 v1 v4).bind fun q4 =>
  (if v3 ≤ q4.1 then (fX8_ask_63 (fX8_ask_33 n) q4.2 sz v0 v1 v2 v3 v4) else
  (fX8_ask_63 (fX8_ask_33 n) q4.2 sz v0 v1 v4 q4.1 v4))))
set_option maxHeartbeats 4000000 in
set_option maxRecDepth 100000 in
theorem bX8_ask_33 {K : HK} {E : HE} {r : Int32} {g' : PH} {mc ms : Nat}  (C : VC K E 6 cX8_ask RX8 (some .int))  : ∀ (n : Nat) (g : PH) (sz : Nat) (v0 : Nat) (v1 : Nat) (v2 : Int32) (v3 : Int32) (v4 : Int32) (u1 u2 cs sl : Nat), fX8_ask_33  n g sz v0 v1 v2 v3 v4 = some (r, g', u1, u2) → cs + u1 = mc → sl + u2 = ms → sz = kS K + cs → V K E (hRm 6 156 mc ms) 6 (hZ K E (some (.int r)) g' mc ms) cs sl sz g 33 [(0, .ref v0), (1, .ref v1), (2, .int v2), (3, .int v3), (4, .int v4)] [] := by
  intro n
  have hkS : K.2.2.2.1.heap.size = kS K := rfl
  induction n with
  | zero =>
    intro g sz v0 v1 v2 v3 v4 u1 u2 cs sl hf e1 e2 e3
    rw [fX8_ask_33] at hf
    cases hf
  | succ n ih =>
    intro g sz v0 v1 v2 v3 v4 u1 u2 cs sl hf e1 e2 e3
    rw [fX8_ask_33] at hf
    refine V.iload (pc := 33) C dX8_ask_33 4 rfl ?_
    refine V.aload_n (pc := 35) C dX8_ask_35 0 rfl ?_
    replace hf := ob_some hf
    obtain ⟨x1, h2, hf⟩ := hf
    refine V.getI (pc := 36) C kX8 (k := 4) (by decide) wd_192 h2 dX8_ask_36 ?_
    refine V.icmp_ge (pc := 39) (t := 69) C dX8_ask_39 (by decide) (fun c3 => ?_) (fun c3 => ?_)
    · replace hf := ite_t c3 hf
      refine V.iload_n (pc := 69) C dX8_ask_69 2 rfl ?_
      obtain ⟨f1, f2, f3, f4⟩ := fin4 hf
      clear hf
      subst f1
      subst f2
      refine V.cast (c := mc) (s := ms) (by omega) (by omega) ?_
      exact V.iret (pc := 70) C (by omega) dX8_ask_70
    replace hf := ite_f c3 hf
    refine V.aload_n (pc := 42) C dX8_ask_42 0 rfl ?_
    refine V.aload_n (pc := 43) C dX8_ask_43 1 rfl ?_
    refine V.iload (pc := 44) C dX8_ask_44 4 rfl ?_
    replace hf := ob_some hf
    obtain ⟨q4, h5, hf⟩ := hf
    refine V.callV0i (pc := 46) C hyX8_greatestPart wd_997 (mX8_greatestPart (r := q4.1) (g' := q4.2) K.2.1 E (sz) h5) rfl rfl rfl (oX8_greatestPart h5) ⟨Nat.le_of_ble_eq_true rfl, Nat.le_of_ble_eq_true rfl⟩ (Nat.le_of_ble_eq_true rfl) dX8_ask_46 ⟨by show _ ≤ mc; omega, by show _ ≤ ms; omega⟩ rfl ?_
    refine V.istore (pc := 49) (L' := [(5, .int q4.1), (0, .ref v0), (1, .ref v1), (2, .int v2), (3, .int v3), (4, .int v4)]) C dX8_ask_49 (by decide) rfl ?_
    refine V.iload (pc := 51) C dX8_ask_51 0 rfl ?_
    refine V.iload_n (pc := 53) C dX8_ask_53 4 rfl ?_
    refine V.icmp_ge (pc := 54) (t := 63) C dX8_ask_54 (by decide) (fun c6 => ?_) (fun c6 => ?_)
    · replace hf := ite_t c6 hf
      refine V.sub (L' := [(0, .ref v0), (1, .ref v1), (2, .int v2), (3, .int v3), (4, .int v4)]) [1, 2, 3, 4, 5] rfl ?_
      exact bX8_ask_63 C ih hf (by omega) (by omega) (by omega)
    replace hf := ite_f c6 hf
    refine V.iload (pc := 57) C dX8_ask_57 5 rfl ?_
    refine V.istore_n (pc := 59) (L' := [(2, .int v4), (5, .int q4.1), (0, .ref v0), (1, .ref v1), (3, .int v3), (4, .int v4)]) C dX8_ask_59 (by decide) rfl ?_
    refine V.iload (pc := 60) C dX8_ask_60 1 rfl ?_
    refine V.istore_n (pc := 62) (L' := [(3, .int q4.1), (2, .int v4), (5, .int q4.1), (0, .ref v0), (1, .ref v1), (4, .int v4)]) C dX8_ask_62 (by decide) rfl ?_
    refine V.sub (L' := [(0, .ref v0), (1, .ref v1), (2, .int v4), (3, .int q4.1), (4, .int v4)]) [3, 4, 1, 0, 5] rfl ?_
    exact bX8_ask_63 C ih hf (by omega) (by omega) (by omega)
def fX8_ask (sz : Nat) (g : PH) (a0 : Nat) : Option (Int32 × PH × Nat × Nat) :=
  okb (isO g a0 8) ((getR g a0 8 5).bind fun p1 =>
  ((getI g p1 3 6).bind fun x3 =>
  ((fX8_marchAt g a0 x3).bind fun (z6, g7) =>
  (z6.elim (some ((-1 : Int32), g7, 0, 0)) (fun p9 =>
  (fX8_gatheredSuspects sz g7 a0).bind fun (z11, g12, n14, n15) =>
  (bmp n14 n15 (z11.bind fun p20 =>
  ((fX8_greatestPart g12 a0 p20 (0 : Int32)).bind fun q22 =>
  (fX8_ask_33 FUEL q22.2 (sz + n14) a0 p20 (0 : Int32) q22.1 (1 : Int32))))))))))
theorem oX8_ask {g : PH} {sz : Nat} {a0 : Nat} {q : (Int32 × PH × Nat × Nat)} (h : fX8_ask sz g a0 = some q) : isO g a0 8 = true := by unfold fX8_ask at h; exact (okb_some h).1
theorem hyX8_ask : hMet yX8_ask RX8 cX8_ask 6 (some .int) 0 := ⟨wd_1019, wd_1017, wd_1018, wd_1, rfl, by decide +kernel, by decide +kernel, by decide +kernel⟩
set_option maxHeartbeats 4000000 in
set_option maxRecDepth 100000 in
theorem mX8_ask (l : Launch) (E : HE) (sz : Nat) {g g' : PH} {a0 : Nat} {r : Int32} {mc ms : Nat} (hf : fX8_ask sz g a0 = some (r, g', mc, ms)) : hM l E yX8_ask cX8_ask 6 (some .int) 6 156 mc ms sz g [.ref a0] (some (.int r)) g' := by
  refine hM.of (by decide) (Nat.le_of_ble_eq_true rfl) (fun K hl C hin hsz => ?_)
  subst hl
  subst hsz
  have C : VC K E 6 cX8_ask RX8 (some .int) := C
  unfold fX8_ask at hf
  replace hf := okb_some hf
  obtain ⟨ho, hf⟩ := hf
  have hkS : K.2.2.2.1.heap.size = kS K := rfl
  have e1 : 0 + mc = mc := Nat.zero_add _
  have e2 : 0 + ms = ms := Nat.zero_add _
  have e3 : kS K = kS K + 0 := rfl
  refine V.start (L' := [(0, .ref a0)]) rfl ?_
  refine V.aload_n (pc := 0) C dX8_ask_0 0 rfl ?_
  refine V.aload_n (pc := 1) C dX8_ask_1 0 rfl ?_
  replace hf := ob_some hf
  obtain ⟨p1, h2, hf⟩ := hf
  refine V.getR (pc := 2) C kX8 (k := 5) (by decide) wd_193 h2 dX8_ask_2 ?_
  replace hf := ob_some hf
  obtain ⟨x3, h4, hf⟩ := hf
  refine V.getI (pc := 5) C kX3 (k := 6) (by decide) wd_72 h4 dX8_ask_5 ?_
  replace hf := ob_some hf
  obtain ⟨⟨z6, g7⟩, h8, hf⟩ := hf
  dsimp only at hf
  refine V.callV0q (pc := 8) C hyX8_marchAt wd_549 (mX8_marchAt (r := z6) (g' := g7) K.2.1 E ((kS K)) h8) rfl rfl rfl (oX8_marchAt h8) ⟨Nat.le_of_ble_eq_true rfl, Nat.le_of_ble_eq_true rfl⟩ (Nat.le_of_ble_eq_true rfl) dX8_ask_8 ⟨by show _ ≤ mc; omega, by show _ ≤ ms; omega⟩ rfl ?_
  rcases z6 with _ | p9
  · refine V.ifnonnullN (pc := 11) C dX8_ask_11 ?_
    refine V.iconst (pc := 14) C dX8_ask_14 (v := (-1 : Int32)) (by decide) ?_
    obtain ⟨f1, f2, f3, f4⟩ := fin4 hf
    clear hf
    subst f1
    subst f2
    refine V.cast (c := mc) (s := ms) (by omega) (by omega) ?_
    exact V.iret (pc := 15) C (by omega) dX8_ask_15
  refine V.ifnonnull (pc := 11) (t := 16) C dX8_ask_11 (by decide) ?_
  refine V.aload_n (pc := 16) C dX8_ask_16 0 rfl ?_
  replace hf := ob_some hf
  obtain ⟨⟨z11, g12, n14, n15⟩, h13, hf⟩ := hf
  dsimp only at hf
  replace hf := bmp_some hf
  obtain ⟨b16, b17, hf, h18, h19⟩ := hf
  refine V.callVq (pc := 17) C hyX8_gatheredSuspects wd_933 (mX8_gatheredSuspects (r := z11) (g' := g12) (mc := n14) (ms := n15) K.2.1 E ((kS K)) h13) rfl rfl rfl (oX8_gatheredSuspects h13) ⟨Nat.le_of_ble_eq_true rfl, Nat.le_of_ble_eq_true rfl⟩ (Nat.le_of_ble_eq_true rfl) dX8_ask_17 ⟨by show _ ≤ mc; omega, by show _ ≤ ms; omega⟩ rfl ?_
  refine V.astore_nQ (pc := 20) (L' := [(1, va_rf z11), (0, .ref a0)]) C (x := z11) dX8_ask_20 (by decide) rfl ?_
  refine V.iconst (pc := 21) C dX8_ask_21 (v := (0 : Int32)) (by decide) ?_
  refine V.istore_n (pc := 22) (L' := [(2, .int (0 : Int32)), (1, va_rf z11), (0, .ref a0)]) C dX8_ask_22 (by decide) (by cases z11 <;> rfl) ?_
  refine V.aload_n (pc := 23) C dX8_ask_23 2 rfl ?_
  refine V.aload_nQ (pc := 24) C dX8_ask_24 1 rfl ?_
  refine V.iconst (pc := 25) C dX8_ask_25 (v := (0 : Int32)) (by decide) ?_
  replace hf := ob_some hf
  obtain ⟨p20, h21, hf⟩ := hf
  subst h21
  replace hf := ob_some hf
  obtain ⟨q22, h23, hf⟩ := hf
  refine V.callV0i (pc := 26) C hyX8_greatestPart wd_997 (mX8_greatestPart (r := q22.1) (g' := q22.2) K.2.1 E (((kS K) + n14)) h23) rfl rfl rfl (oX8_greatestPart h23) ⟨Nat.le_of_ble_eq_true rfl, Nat.le_of_ble_eq_true rfl⟩ (Nat.le_of_ble_eq_true rfl) dX8_ask_26 ⟨by show _ ≤ mc; omega, by show _ ≤ ms; omega⟩ rfl ?_
  refine V.istore_n (pc := 29) (L' := [(3, .int q22.1), (2, .int (0 : Int32)), (1, .ref p20), (0, .ref a0)]) C dX8_ask_29 (by decide) rfl ?_
  refine V.iconst (pc := 30) C dX8_ask_30 (v := (1 : Int32)) (by decide) ?_
  refine V.istore (pc := 31) (L' := [(4, .int (1 : Int32)), (3, .int q22.1), (2, .int (0 : Int32)), (1, .ref p20), (0, .ref a0)]) C dX8_ask_31 (by decide) rfl ?_
  refine V.sub (L' := [(0, .ref a0), (1, .ref p20), (2, .int (0 : Int32)), (3, .int q22.1), (4, .int (1 : Int32))]) [4, 3, 2, 1, 0] rfl ?_
  exact bX8_ask_33 C  _ _ _ _ _ _ _ _ _ _ _ _ hf (by omega) (by omega) (by omega)
theorem dX8_draws_0 : decode cX8_draws 0 = .ok (.iload_n 1, 1) := by decide +kernel
theorem dX8_draws_1 : decode cX8_draws 1 = .ok (.ifCond .ge 5, 3) := by decide +kernel
theorem dX8_draws_4 : decode cX8_draws 4 = .ok (.iconst (-1), 1) := by decide +kernel
theorem dX8_draws_5 : decode cX8_draws 5 = .ok (.ireturn, 1) := by decide +kernel
theorem dX8_draws_6 : decode cX8_draws 6 = .ok (.aload_n 0, 1) := by decide +kernel
theorem dX8_draws_7 : decode cX8_draws 7 = .ok (.getfield 68, 3) := by decide +kernel
theorem dX8_draws_10 : decode cX8_draws 10 = .ok (.istore_n 2, 1) := by decide +kernel
theorem dX8_draws_11 : decode cX8_draws 11 = .ok (.aload_n 0, 1) := by decide +kernel
theorem dX8_draws_12 : decode cX8_draws 12 = .ok (.iload_n 1, 1) := by decide +kernel
theorem dX8_draws_13 : decode cX8_draws 13 = .ok (.putfield 68, 3) := by decide +kernel
theorem dX8_draws_16 : decode cX8_draws 16 = .ok (.iload_n 2, 1) := by decide +kernel
theorem dX8_draws_17 : decode cX8_draws 17 = .ok (.ireturn, 1) := by decide +kernel
def fX8_draws (g : PH) (a0 : Nat) (a1 : Int32) : Option (Int32 × PH) :=
  okb (isO g a0 8) (if 0 ≤ a1 then ((getI g a0 8 11).bind fun x2 =>
  ((putV g a0 8 11 (.int a1)).bind fun g4 =>
  (some (x2, g4)))) else
  (some ((-1 : Int32), g)))
theorem oX8_draws {g : PH} {a0 : Nat} {a1 : Int32} {q : (Int32 × PH)} (h : fX8_draws g a0 a1 = some q) : isO g a0 8 = true := by unfold fX8_draws at h; exact (okb_some h).1
theorem hyX8_draws : hMet yX8_draws RX8 cX8_draws 3 (some .int) 1 := ⟨wd_1023, wd_1021, wd_1022, wd_1, rfl, by decide +kernel, by decide +kernel, by decide +kernel⟩
set_option maxHeartbeats 4000000 in
set_option maxRecDepth 100000 in
theorem mX8_draws (l : Launch) (E : HE) (sz : Nat) {g g' : PH} {a0 : Nat} {a1 : Int32} {r : Int32} (hf : fX8_draws g a0 a1 = some (r, g')) : hM l E yX8_draws cX8_draws 3 (some .int) 0 0 0 0 sz g [.ref a0, .int a1] (some (.int r)) g' := by
  refine hM.of (by decide) (Nat.le_of_ble_eq_true rfl) (fun K hl C hin hsz => ?_)
  subst hl
  subst hsz
  have C : VC K E 3 cX8_draws RX8 (some .int) := C
  unfold fX8_draws at hf
  replace hf := okb_some hf
  obtain ⟨ho, hf⟩ := hf
  refine V.start (L' := [(0, .ref a0), (1, .int a1)]) rfl ?_
  refine V.iload_n (pc := 0) C dX8_draws_0 1 rfl ?_
  refine V.if_ge (pc := 1) (t := 6) C dX8_draws_1 (by decide) (fun c1 => ?_) (fun c1 => ?_)
  · replace hf := ite_t c1 hf
    refine V.aload_n (pc := 6) C dX8_draws_6 0 rfl ?_
    replace hf := ob_some hf
    obtain ⟨x2, h3, hf⟩ := hf
    refine V.getI (pc := 7) C kX8 (k := 11) (by decide) wd_199 h3 dX8_draws_7 ?_
    refine V.istore_n (pc := 10) (L' := [(2, .int x2), (0, .ref a0), (1, .int a1)]) C dX8_draws_10 (by decide) rfl ?_
    refine V.aload_n (pc := 11) C dX8_draws_11 1 rfl ?_
    refine V.iload_n (pc := 12) C dX8_draws_12 2 rfl ?_
    replace hf := ob_some hf
    obtain ⟨g4, h5, hf⟩ := hf
    refine V.putX (pc := 13) C kX8 (k := 11) (by decide) wd_199 rfl rfl rfl h5 dX8_draws_13 ?_
    refine V.iload_n (pc := 16) C dX8_draws_16 0 rfl ?_
    obtain ⟨f1, f2⟩ := fin2 hf
    clear hf
    subst f1
    subst f2
    exact V.iret (pc := 17) C rfl dX8_draws_17
  replace hf := ite_f c1 hf
  refine V.iconst (pc := 4) C dX8_draws_4 (v := (-1 : Int32)) (by decide) ?_
  obtain ⟨f1, f2⟩ := fin2 hf
  clear hf
  subst f1
  subst f2
  exact V.iret (pc := 5) C rfl dX8_draws_5
theorem dX8_draw_0 : decode cX8_draw 0 = .ok (.aload_n 0, 1) := by decide +kernel
theorem dX8_draw_1 : decode cX8_draw 1 = .ok (.getfield 68, 3) := by decide +kernel
theorem dX8_draw_4 : decode cX8_draw 4 = .ok (.i2l, 1) := by decide +kernel
theorem dX8_draw_5 : decode cX8_draw 5 = .ok (.ldc2_w 285, 3) := by decide +kernel
theorem dX8_draw_8 : decode cX8_draw 8 = .ok (.lmul, 1) := by decide +kernel
theorem dX8_draw_9 : decode cX8_draw 9 = .ok (.ldc2_w 287, 3) := by decide +kernel
theorem dX8_draw_12 : decode cX8_draw 12 = .ok (.ladd, 1) := by decide +kernel
theorem dX8_draw_13 : decode cX8_draw 13 = .ok (.ldc2_w 289, 3) := by decide +kernel
theorem dX8_draw_16 : decode cX8_draw 16 = .ok (.land, 1) := by decide +kernel
theorem dX8_draw_17 : decode cX8_draw 17 = .ok (.lstore_n 2, 1) := by decide +kernel
theorem dX8_draw_18 : decode cX8_draw 18 = .ok (.aload_n 0, 1) := by decide +kernel
theorem dX8_draw_19 : decode cX8_draw 19 = .ok (.lload_n 2, 1) := by decide +kernel
theorem dX8_draw_20 : decode cX8_draw 20 = .ok (.l2i, 1) := by decide +kernel
theorem dX8_draw_21 : decode cX8_draw 21 = .ok (.putfield 68, 3) := by decide +kernel
theorem dX8_draw_24 : decode cX8_draw 24 = .ok (.iload_n 1, 1) := by decide +kernel
theorem dX8_draw_25 : decode cX8_draw 25 = .ok (.iconst 1, 1) := by decide +kernel
theorem dX8_draw_26 : decode cX8_draw 26 = .ok (.if_icmp .ge 7, 3) := by decide +kernel
theorem dX8_draw_29 : decode cX8_draw 29 = .ok (.iconst 0, 1) := by decide +kernel
theorem dX8_draw_30 : decode cX8_draw 30 = .ok (.goto 13, 3) := by decide +kernel
theorem dX8_draw_33 : decode cX8_draw 33 = .ok (.aload_n 0, 1) := by decide +kernel
theorem dX8_draw_34 : decode cX8_draw 34 = .ok (.getfield 68, 3) := by decide +kernel
theorem dX8_draw_37 : decode cX8_draw 37 = .ok (.ldc_w 291, 3) := by decide +kernel
theorem dX8_draw_40 : decode cX8_draw 40 = .ok (.idiv, 1) := by decide +kernel
theorem dX8_draw_41 : decode cX8_draw 41 = .ok (.iload_n 1, 1) := by decide +kernel
theorem dX8_draw_42 : decode cX8_draw 42 = .ok (.irem, 1) := by decide +kernel
theorem dX8_draw_43 : decode cX8_draw 43 = .ok (.ireturn, 1) := by decide +kernel
def fX8_draw (g : PH) (a0 : Nat) (a1 : Int32) : Option (Int32 × PH) :=
  okb (isO g a0 8) ((getI g a0 8 11).bind fun x1 =>
  ((putV g a0 8 11 (.int (((x1.toInt64 * (1103515245 : Int64)) + (12345 : Int64)) &&& (2147483647 : Int64)).toInt32)).bind fun g3 =>
  (if (1 : Int32) ≤ a1 then ((getI g3 a0 8 11).bind fun x6 =>
  (okb (decide (¬ a1 = 0)) (some (((x6 / (65536 : Int32)) - (x6 / (65536 : Int32)) / a1 * a1), g3)))) else
  (some ((0 : Int32), g3)))))
theorem oX8_draw {g : PH} {a0 : Nat} {a1 : Int32} {q : (Int32 × PH)} (h : fX8_draw g a0 a1 = some q) : isO g a0 8 = true := by unfold fX8_draw at h; exact (okb_some h).1
theorem hyX8_draw : hMet yX8_draw RX8 cX8_draw 4 (some .int) 1 := ⟨wd_1031, wd_1030, ws_48, wd_1, rfl, by decide +kernel, by decide +kernel, by decide +kernel⟩
set_option maxHeartbeats 4000000 in
set_option maxRecDepth 100000 in
theorem mX8_draw (l : Launch) (E : HE) (sz : Nat) {g g' : PH} {a0 : Nat} {a1 : Int32} {r : Int32} (hf : fX8_draw g a0 a1 = some (r, g')) : hM l E yX8_draw cX8_draw 4 (some .int) 0 0 0 0 sz g [.ref a0, .int a1] (some (.int r)) g' := by
  refine hM.of (by decide) (Nat.le_of_ble_eq_true rfl) (fun K hl C hin hsz => ?_)
  subst hl
  subst hsz
  have C : VC K E 4 cX8_draw RX8 (some .int) := C
  unfold fX8_draw at hf
  replace hf := okb_some hf
  obtain ⟨ho, hf⟩ := hf
  refine V.start (L' := [(0, .ref a0), (1, .int a1)]) rfl ?_
  refine V.aload_n (pc := 0) C dX8_draw_0 0 rfl ?_
  replace hf := ob_some hf
  obtain ⟨x1, h2, hf⟩ := hf
  refine V.getI (pc := 1) C kX8 (k := 11) (by decide) wd_199 h2 dX8_draw_1 ?_
  refine V.i2l (pc := 4) C dX8_draw_4 ?_
  refine V.ldc2 (pc := 5) C wd_1032 dX8_draw_5 ?_
  refine V.lmul (pc := 8) C dX8_draw_8 ?_
  refine V.ldc2 (pc := 9) C wd_1033 dX8_draw_9 ?_
  refine V.ladd (pc := 12) C dX8_draw_12 ?_
  refine V.ldc2 (pc := 13) C wd_1034 dX8_draw_13 ?_
  refine V.land (pc := 16) C dX8_draw_16 ?_
  refine V.lstore_n (pc := 17) (L' := [(2, .long (((x1.toInt64 * (1103515245 : Int64)) + (12345 : Int64)) &&& (2147483647 : Int64))), (0, .ref a0), (1, .int a1)]) C dX8_draw_17 (by decide) rfl ?_
  refine V.aload_n (pc := 18) C dX8_draw_18 1 rfl ?_
  refine V.lload_n (pc := 19) C dX8_draw_19 0 rfl ?_
  refine V.l2i (pc := 20) C dX8_draw_20 ?_
  replace hf := ob_some hf
  obtain ⟨g3, h4, hf⟩ := hf
  refine V.putX (pc := 21) C kX8 (k := 11) (by decide) wd_199 rfl rfl rfl h4 dX8_draw_21 ?_
  refine V.iload_n (pc := 24) C dX8_draw_24 2 rfl ?_
  refine V.iconst (pc := 25) C dX8_draw_25 (v := (1 : Int32)) (by decide) ?_
  refine V.icmp_ge (pc := 26) (t := 33) C dX8_draw_26 (by decide) (fun c5 => ?_) (fun c5 => ?_)
  · replace hf := ite_t c5 hf
    refine V.aload_n (pc := 33) C dX8_draw_33 1 rfl ?_
    replace hf := ob_some hf
    obtain ⟨x6, h7, hf⟩ := hf
    refine V.getI (pc := 34) C kX8 (k := 11) (by decide) wd_199 h7 dX8_draw_34 ?_
    refine V.ldcw (pc := 37) C wd_1035 dX8_draw_37 ?_
    refine V.idiv (pc := 40) C dX8_draw_40 (by decide) ?_
    refine V.iload_n (pc := 41) C dX8_draw_41 2 rfl ?_
    replace hf := okb_some hf
    obtain ⟨h8, hf⟩ := hf
    refine V.irem (pc := 42) C dX8_draw_42 (of_decide_eq_true h8) ?_
    obtain ⟨f1, f2⟩ := fin2 hf
    clear hf
    subst f1
    subst f2
    exact V.iret (pc := 43) C rfl dX8_draw_43
  replace hf := ite_f c5 hf
  refine V.iconst (pc := 29) C dX8_draw_29 (v := (0 : Int32)) (by decide) ?_
  refine V.goto (pc := 30) (t := 43) C dX8_draw_30 (by decide) ?_
  obtain ⟨f1, f2⟩ := fin2 hf
  clear hf
  subst f1
  subst f2
  exact V.iret (pc := 43) C rfl dX8_draw_43
