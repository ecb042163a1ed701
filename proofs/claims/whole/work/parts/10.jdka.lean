theorem dJ0_coder_7d493_0 : decode cJ0_coder_7d493 0 = .ok (.getstatic 38, 3) := by decide +kernel
theorem dJ0_coder_7d493_3 : decode cJ0_coder_7d493 3 = .ok (.ifCond .eq 10, 3) := by decide +kernel
theorem dJ0_coder_7d493_6 : decode cJ0_coder_7d493 6 = .ok (.aload_n 0, 1) := by decide +kernel
theorem dJ0_coder_7d493_7 : decode cJ0_coder_7d493 7 = .ok (.getfield 15, 3) := by decide +kernel
theorem dJ0_coder_7d493_10 : decode cJ0_coder_7d493 10 = .ok (.goto 4, 3) := by decide +kernel
theorem dJ0_coder_7d493_13 : decode cJ0_coder_7d493 13 = .ok (.iconst 1, 1) := by decide +kernel
theorem dJ0_coder_7d493_14 : decode cJ0_coder_7d493 14 = .ok (.ireturn, 1) := by decide +kernel
def fJ0_coder_7d493 (g : PH) (a0 : Nat) : Option (Int32 × PH) :=
  okb (decide (a0 < 15)) (okb (decide (a0 < 15)) (some ((0 : Int32), g)))
theorem oJ0_coder_7d493 {g : PH} {a0 : Nat} {q : (Int32 × PH)} (h : fJ0_coder_7d493 g a0 = some q) : decide (a0 < 15) = true := by unfold fJ0_coder_7d493 at h; exact (okb_some h).1
theorem hyJ0_coder_7d493 : hMet yJ0_coder_7d493 RJ0 cJ0_coder_7d493 1 (some .byte) 0 := ⟨wd_323, wd_321, wd_322, wd_9, rfl, by decide +kernel, by decide +kernel, by decide +kernel⟩
set_option maxHeartbeats 4000000 in
set_option maxRecDepth 100000 in
theorem mJ0_coder_7d493 (l : Launch) (E : HE) (sz : Nat) {g g' : PH} {a0 : Nat} {r : Int32} (hf : fJ0_coder_7d493 g a0 = some (r, g')) : hM l E yJ0_coder_7d493 cJ0_coder_7d493 1 (some .byte) 0 0 0 0 sz g [.ref (eK E a0)] (some (.int r)) g' := by
  refine hM.of (by decide) (Nat.le_of_ble_eq_true rfl) (fun K hl C hin hsz => ?_)
  subst hl
  subst hsz
  have C : VC K E 1 cJ0_coder_7d493 RJ0 (some .byte) := C
  unfold fJ0_coder_7d493 at hf
  replace hf := okb_some hf
  obtain ⟨ho, hf⟩ := hf
  refine V.start (L' := [(0, .ref (eK E a0))]) rfl ?_
  refine V.gCompact (pc := 0) C wd_314 dJ0_coder_7d493_0 ?_
  refine V.if_eq (pc := 3) (t := 13) C dJ0_coder_7d493_3 (by decide) (fun h => absurd h (by decide)) (fun _ => ?_)
  refine V.aload_n (pc := 6) C dJ0_coder_7d493_6 0 rfl ?_
  replace hf := okb_some hf
  obtain ⟨h1, hf⟩ := hf
  refine V.scoder (pc := 7) C (of_decide_eq_true h1) wd_1590 dJ0_coder_7d493_7 ?_
  refine V.goto (pc := 10) (t := 14) C dJ0_coder_7d493_10 (by decide) ?_
  obtain ⟨f1, f2⟩ := fin2 hf
  clear hf
  subst f1
  subst f2
  exact V.zret (pc := 14) C rfl rfl dJ0_coder_7d493_14
theorem dJ0_isLatin1_aae02_0 : decode cJ0_isLatin1_aae02 0 = .ok (.getstatic 38, 3) := by decide +kernel
theorem dJ0_isLatin1_aae02_3 : decode cJ0_isLatin1_aae02 3 = .ok (.ifCond .eq 14, 3) := by decide +kernel
theorem dJ0_isLatin1_aae02_6 : decode cJ0_isLatin1_aae02 6 = .ok (.aload_n 0, 1) := by decide +kernel
theorem dJ0_isLatin1_aae02_7 : decode cJ0_isLatin1_aae02 7 = .ok (.getfield 15, 3) := by decide +kernel
theorem dJ0_isLatin1_aae02_10 : decode cJ0_isLatin1_aae02 10 = .ok (.ifCond .ne 7, 3) := by decide +kernel
theorem dJ0_isLatin1_aae02_13 : decode cJ0_isLatin1_aae02 13 = .ok (.iconst 1, 1) := by decide +kernel
theorem dJ0_isLatin1_aae02_14 : decode cJ0_isLatin1_aae02 14 = .ok (.goto 4, 3) := by decide +kernel
theorem dJ0_isLatin1_aae02_17 : decode cJ0_isLatin1_aae02 17 = .ok (.iconst 0, 1) := by decide +kernel
theorem dJ0_isLatin1_aae02_18 : decode cJ0_isLatin1_aae02 18 = .ok (.ireturn, 1) := by decide +kernel
def fJ0_isLatin1_aae02 (g : PH) (a0 : Nat) : Option (Int32 × PH) :=
  okb (decide (a0 < 15)) (okb (decide (a0 < 15)) (some ((1 : Int32), g)))
theorem oJ0_isLatin1_aae02 {g : PH} {a0 : Nat} {q : (Int32 × PH)} (h : fJ0_isLatin1_aae02 g a0 = some q) : decide (a0 < 15) = true := by unfold fJ0_isLatin1_aae02 at h; exact (okb_some h).1
theorem hyJ0_isLatin1_aae02 : hMet yJ0_isLatin1_aae02 RJ0 cJ0_isLatin1_aae02 1 (some .boolean) 0 := ⟨wd_313, wd_311, wd_312, wd_9, rfl, by decide +kernel, by decide +kernel, by decide +kernel⟩
set_option maxHeartbeats 4000000 in
set_option maxRecDepth 100000 in
theorem mJ0_isLatin1_aae02 (l : Launch) (E : HE) (sz : Nat) {g g' : PH} {a0 : Nat} {r : Int32} (hf : fJ0_isLatin1_aae02 g a0 = some (r, g')) : hM l E yJ0_isLatin1_aae02 cJ0_isLatin1_aae02 1 (some .boolean) 0 0 0 0 sz g [.ref (eK E a0)] (some (.int r)) g' := by
  refine hM.of (by decide) (Nat.le_of_ble_eq_true rfl) (fun K hl C hin hsz => ?_)
  subst hl
  subst hsz
  have C : VC K E 1 cJ0_isLatin1_aae02 RJ0 (some .boolean) := C
  unfold fJ0_isLatin1_aae02 at hf
  replace hf := okb_some hf
  obtain ⟨ho, hf⟩ := hf
  refine V.start (L' := [(0, .ref (eK E a0))]) rfl ?_
  refine V.gCompact (pc := 0) C wd_314 dJ0_isLatin1_aae02_0 ?_
  refine V.if_eq (pc := 3) (t := 17) C dJ0_isLatin1_aae02_3 (by decide) (fun h => absurd h (by decide)) (fun _ => ?_)
  refine V.aload_n (pc := 6) C dJ0_isLatin1_aae02_6 0 rfl ?_
  replace hf := okb_some hf
  obtain ⟨h1, hf⟩ := hf
  refine V.scoder (pc := 7) C (of_decide_eq_true h1) wd_1590 dJ0_isLatin1_aae02_7 ?_
  refine V.if_ne (pc := 10) (t := 17) C dJ0_isLatin1_aae02_10 (by decide) (fun h => absurd h (by decide)) (fun _ => ?_)
  refine V.iconst (pc := 13) C dJ0_isLatin1_aae02_13 (v := (1 : Int32)) (by decide) ?_
  refine V.goto (pc := 14) (t := 18) C dJ0_isLatin1_aae02_14 (by decide) ?_
  obtain ⟨f1, f2⟩ := fin2 hf
  clear hf
  subst f1
  subst f2
  exact V.zret (pc := 18) C rfl rfl dJ0_isLatin1_aae02_18
theorem dJ0_length_8abf5_0 : decode cJ0_length_8abf5 0 = .ok (.aload_n 0, 1) := by decide +kernel
theorem dJ0_length_8abf5_1 : decode cJ0_length_8abf5 1 = .ok (.getfield 9, 3) := by decide +kernel
theorem dJ0_length_8abf5_4 : decode cJ0_length_8abf5 4 = .ok (.arraylength, 1) := by decide +kernel
theorem dJ0_length_8abf5_5 : decode cJ0_length_8abf5 5 = .ok (.aload_n 0, 1) := by decide +kernel
theorem dJ0_length_8abf5_6 : decode cJ0_length_8abf5 6 = .ok (.invokevirtual 335, 3) := by decide +kernel
theorem dJ0_length_8abf5_9 : decode cJ0_length_8abf5 9 = .ok (.ishr, 1) := by decide +kernel
theorem dJ0_length_8abf5_10 : decode cJ0_length_8abf5 10 = .ok (.ireturn, 1) := by decide +kernel
def fJ0_length_8abf5 (g : PH) (a0 : Nat) : Option (Int32 × PH) :=
  okb (decide (a0 < 15)) (okb (decide (a0 < 15)) (okb (decide (a0 < 15)) ((fJ0_coder_7d493 g a0).bind fun q3 =>
  (some (((Int32.ofNat (strB a0).length) >>> (q3.1 &&& 31)), q3.2)))))
theorem oJ0_length_8abf5 {g : PH} {a0 : Nat} {q : (Int32 × PH)} (h : fJ0_length_8abf5 g a0 = some q) : decide (a0 < 15) = true := by unfold fJ0_length_8abf5 at h; exact (okb_some h).1
theorem hyJ0_length_8abf5 : hMet yJ0_length_8abf5 RJ0 cJ0_length_8abf5 1 (some .int) 0 := ⟨wd_319, wd_317, wd_318, wd_9, rfl, by decide +kernel, by decide +kernel, by decide +kernel⟩
set_option maxHeartbeats 4000000 in
set_option maxRecDepth 100000 in
theorem mJ0_length_8abf5 (l : Launch) (E : HE) (sz : Nat) {g g' : PH} {a0 : Nat} {r : Int32} (hf : fJ0_length_8abf5 g a0 = some (r, g')) : hM l E yJ0_length_8abf5 cJ0_length_8abf5 1 (some .int) 1 20 0 0 sz g [.ref (eK E a0)] (some (.int r)) g' := by
  refine hM.of (by decide) (Nat.le_of_ble_eq_true rfl) (fun K hl C hin hsz => ?_)
  subst hl
  subst hsz
  have C : VC K E 1 cJ0_length_8abf5 RJ0 (some .int) := C
  unfold fJ0_length_8abf5 at hf
  replace hf := okb_some hf
  obtain ⟨ho, hf⟩ := hf
  refine V.start (L' := [(0, .ref (eK E a0))]) rfl ?_
  refine V.aload_n (pc := 0) C dJ0_length_8abf5_0 0 rfl ?_
  replace hf := okb_some hf
  obtain ⟨h1, hf⟩ := hf
  refine V.sval (pc := 1) C (of_decide_eq_true h1) wd_1591 dJ0_length_8abf5_1 ?_
  replace hf := okb_some hf
  obtain ⟨h2, hf⟩ := hf
  refine V.slen (pc := 4) C (of_decide_eq_true h2) dJ0_length_8abf5_4 ?_
  refine V.aload_n (pc := 5) C dJ0_length_8abf5_5 0 rfl ?_
  replace hf := ob_some hf
  obtain ⟨q3, h4, hf⟩ := hf
  refine V.callVSi (pc := 6) C (of_decide_eq_true (oJ0_coder_7d493 h4)) hyJ0_coder_7d493 wd_320 (mJ0_coder_7d493 (r := q3.1) (g' := q3.2) K.2.1 E (kS K) h4) rfl ⟨Nat.le_of_ble_eq_true rfl, Nat.le_of_ble_eq_true rfl⟩ (Nat.le_of_ble_eq_true rfl) dJ0_length_8abf5_6 ⟨Nat.zero_le _, Nat.zero_le _⟩ rfl ?_
  refine V.ishr (pc := 9) C dJ0_length_8abf5_9 ?_
  obtain ⟨f1, f2⟩ := fin2 hf
  clear hf
  subst f1
  subst f2
  exact V.iret (pc := 10) C rfl dJ0_length_8abf5_10
theorem dJ1_canEncode_9a6ad_0 : decode cJ1_canEncode_9a6ad 0 = .ok (.iload_n 0, 1) := by decide +kernel
theorem dJ1_canEncode_9a6ad_1 : decode cJ1_canEncode_9a6ad 1 = .ok (.ifCond .lt 14, 3) := by decide +kernel
theorem dJ1_canEncode_9a6ad_4 : decode cJ1_canEncode_9a6ad 4 = .ok (.iload_n 0, 1) := by decide +kernel
theorem dJ1_canEncode_9a6ad_5 : decode cJ1_canEncode_9a6ad 5 = .ok (.sipush 255, 3) := by decide +kernel
theorem dJ1_canEncode_9a6ad_8 : decode cJ1_canEncode_9a6ad 8 = .ok (.if_icmp .gt 7, 3) := by decide +kernel
theorem dJ1_canEncode_9a6ad_11 : decode cJ1_canEncode_9a6ad 11 = .ok (.iconst 1, 1) := by decide +kernel
theorem dJ1_canEncode_9a6ad_12 : decode cJ1_canEncode_9a6ad 12 = .ok (.goto 4, 3) := by decide +kernel
theorem dJ1_canEncode_9a6ad_15 : decode cJ1_canEncode_9a6ad 15 = .ok (.iconst 0, 1) := by decide +kernel
theorem dJ1_canEncode_9a6ad_16 : decode cJ1_canEncode_9a6ad 16 = .ok (.ireturn, 1) := by decide +kernel
def fJ1_canEncode_9a6ad (g : PH) (a0 : Int32) : Option (Int32 × PH) :=
  if a0 < 0 then (some ((0 : Int32), g)) else
  (if (255 : Int32) < a0 then (some ((0 : Int32), g)) else
  (some ((1 : Int32), g)))
theorem hyJ1_canEncode_9a6ad : hMetS yJ1_canEncode_9a6ad cJ1_canEncode_9a6ad 1 (some .boolean) 1 := ⟨wd_329, wd_328, wd_10, by decide +kernel, by decide +kernel, by decide +kernel⟩
set_option maxHeartbeats 4000000 in
set_option maxRecDepth 100000 in
theorem mJ1_canEncode_9a6ad (l : Launch) (E : HE) (sz : Nat) {g g' : PH} {a0 : Int32} {r : Int32} (hf : fJ1_canEncode_9a6ad g a0 = some (r, g')) : hM l E yJ1_canEncode_9a6ad cJ1_canEncode_9a6ad 1 (some .boolean) 0 0 0 0 sz g [.int a0] (some (.int r)) g' := by
  refine hM.of (by decide) (Nat.le_of_ble_eq_true rfl) (fun K hl C hin hsz => ?_)
  subst hl
  subst hsz
  have C : VC K E 1 cJ1_canEncode_9a6ad RJ1 (some .boolean) := C
  unfold fJ1_canEncode_9a6ad at hf
  refine V.start (L' := [(0, .int a0)]) rfl ?_
  refine V.iload_n (pc := 0) C dJ1_canEncode_9a6ad_0 0 rfl ?_
  refine V.if_lt (pc := 1) (t := 15) C dJ1_canEncode_9a6ad_1 (by decide) (fun c1 => ?_) (fun c1 => ?_)
  · replace hf := ite_t c1 hf
    refine V.iconst (pc := 15) C dJ1_canEncode_9a6ad_15 (v := (0 : Int32)) (by decide) ?_
    obtain ⟨f1, f2⟩ := fin2 hf
    clear hf
    subst f1
    subst f2
    exact V.zret (pc := 16) C rfl rfl dJ1_canEncode_9a6ad_16
  replace hf := ite_f c1 hf
  refine V.iload_n (pc := 4) C dJ1_canEncode_9a6ad_4 0 rfl ?_
  refine V.sipush (pc := 5) C dJ1_canEncode_9a6ad_5 (v := (255 : Int32)) (by decide) ?_
  refine V.icmp_gt (pc := 8) (t := 15) C dJ1_canEncode_9a6ad_8 (by decide) (fun c2 => ?_) (fun c2 => ?_)
  · replace hf := ite_t c2 hf
    refine V.iconst (pc := 15) C dJ1_canEncode_9a6ad_15 (v := (0 : Int32)) (by decide) ?_
    obtain ⟨f1, f2⟩ := fin2 hf
    clear hf
    subst f1
    subst f2
    exact V.zret (pc := 16) C rfl rfl dJ1_canEncode_9a6ad_16
  replace hf := ite_f c2 hf
  refine V.iconst (pc := 11) C dJ1_canEncode_9a6ad_11 (v := (1 : Int32)) (by decide) ?_
  refine V.goto (pc := 12) (t := 16) C dJ1_canEncode_9a6ad_12 (by decide) ?_
  obtain ⟨f1, f2⟩ := fin2 hf
  clear hf
  subst f1
  subst f2
  exact V.zret (pc := 16) C rfl rfl dJ1_canEncode_9a6ad_16
theorem dJ3_checkIndex_8e157_0 : decode cJ3_checkIndex_8e157 0 = .ok (.iload_n 0, 1) := by decide +kernel
theorem dJ3_checkIndex_8e157_1 : decode cJ3_checkIndex_8e157 1 = .ok (.ifCond .lt 8, 3) := by decide +kernel
theorem dJ3_checkIndex_8e157_4 : decode cJ3_checkIndex_8e157 4 = .ok (.iload_n 0, 1) := by decide +kernel
theorem dJ3_checkIndex_8e157_5 : decode cJ3_checkIndex_8e157 5 = .ok (.iload_n 1, 1) := by decide +kernel
theorem dJ3_checkIndex_8e157_6 : decode cJ3_checkIndex_8e157 6 = .ok (.if_icmp .lt 10, 3) := by decide +kernel
theorem dJ3_checkIndex_8e157_9 : decode cJ3_checkIndex_8e157 9 = .ok (.aload_n 2, 1) := by decide +kernel
theorem dJ3_checkIndex_8e157_10 : decode cJ3_checkIndex_8e157 10 = .ok (.iload_n 0, 1) := by decide +kernel
theorem dJ3_checkIndex_8e157_11 : decode cJ3_checkIndex_8e157 11 = .ok (.iload_n 1, 1) := by decide +kernel
theorem dJ3_checkIndex_8e157_12 : decode cJ3_checkIndex_8e157 12 = .ok (.invokestatic 95, 3) := by decide +kernel
theorem dJ3_checkIndex_8e157_15 : decode cJ3_checkIndex_8e157 15 = .ok (.athrow, 1) := by decide +kernel
theorem dJ3_checkIndex_8e157_16 : decode cJ3_checkIndex_8e157 16 = .ok (.iload_n 0, 1) := by decide +kernel
theorem dJ3_checkIndex_8e157_17 : decode cJ3_checkIndex_8e157 17 = .ok (.ireturn, 1) := by decide +kernel
def fJ3_checkIndex_8e157 (g : PH) (a0 : Int32) (a1 : Int32) : Option (Int32 × PH) :=
  if a0 < 0 then (none) else
  (if a0 < a1 then (some (a0, g)) else
  (none))
theorem hyJ3_checkIndex_8e157 : hMetS yJ3_checkIndex_8e157 cJ3_checkIndex_8e157 3 (some .int) 3 := ⟨wd_511, wd_510, wd_12, by decide +kernel, by decide +kernel, by decide +kernel⟩
set_option maxHeartbeats 4000000 in
set_option maxRecDepth 100000 in
theorem mJ3_checkIndex_8e157 (l : Launch) (E : HE) (sz : Nat) {g g' : PH} {a0 : Int32} {a1 : Int32} {a2 : Option Nat} {r : Int32} (hf : fJ3_checkIndex_8e157 g a0 a1 = some (r, g')) : hM l E yJ3_checkIndex_8e157 cJ3_checkIndex_8e157 3 (some .int) 0 0 0 0 sz g [.int a0, .int a1, va_rf a2] (some (.int r)) g' := by
  refine hM.of (by decide) (by cases a2 <;> exact Nat.le_of_ble_eq_true rfl) (fun K hl C hin hsz => ?_)
  subst hl
  subst hsz
  have C : VC K E 3 cJ3_checkIndex_8e157 RJ3 (some .int) := C
  unfold fJ3_checkIndex_8e157 at hf
  refine V.start (L' := [(0, .int a0), (1, .int a1), (2, va_rf a2)]) (by cases a2 <;> rfl) ?_
  refine V.iload_n (pc := 0) C dJ3_checkIndex_8e157_0 0 rfl ?_
  refine V.if_lt (pc := 1) (t := 9) C dJ3_checkIndex_8e157_1 (by decide) (fun c1 => ?_) (fun c1 => ?_)
  · replace hf := ite_t c1 hf
    cases hf
  replace hf := ite_f c1 hf
  refine V.iload_n (pc := 4) C dJ3_checkIndex_8e157_4 0 rfl ?_
  refine V.iload_n (pc := 5) C dJ3_checkIndex_8e157_5 1 rfl ?_
  refine V.icmp_lt (pc := 6) (t := 16) C dJ3_checkIndex_8e157_6 (by decide) (fun c2 => ?_) (fun c2 => ?_)
  · replace hf := ite_t c2 hf
    refine V.iload_n (pc := 16) C dJ3_checkIndex_8e157_16 0 rfl ?_
    obtain ⟨f1, f2⟩ := fin2 hf
    clear hf
    subst f1
    subst f2
    exact V.iret (pc := 17) C rfl dJ3_checkIndex_8e157_17
  replace hf := ite_f c2 hf
  cases hf
theorem dJ0_checkIndex_df160_0 : decode cJ0_checkIndex_df160 0 = .ok (.iload_n 0, 1) := by decide +kernel
theorem dJ0_checkIndex_df160_1 : decode cJ0_checkIndex_df160 1 = .ok (.iload_n 1, 1) := by decide +kernel
theorem dJ0_checkIndex_df160_2 : decode cJ0_checkIndex_df160 2 = .ok (.getstatic 1053, 3) := by decide +kernel
theorem dJ0_checkIndex_df160_5 : decode cJ0_checkIndex_df160 5 = .ok (.invokestatic 1059, 3) := by decide +kernel
theorem dJ0_checkIndex_df160_8 : decode cJ0_checkIndex_df160 8 = .ok (.pop, 1) := by decide +kernel
theorem dJ0_checkIndex_df160_9 : decode cJ0_checkIndex_df160 9 = .ok (.return_, 1) := by decide +kernel
def fJ0_checkIndex_df160 (g : PH) (a0 : Int32) (a1 : Int32) : Option (Unit × PH) :=
  (fJ3_checkIndex_8e157 g a0 a1).bind fun q2 =>
  (some ((), q2.2))
theorem hyJ0_checkIndex_df160 : hMetS yJ0_checkIndex_df160 cJ0_checkIndex_df160 2 none 2 := ⟨wd_508, wd_507, wd_9, by decide +kernel, by decide +kernel, by decide +kernel⟩
set_option maxHeartbeats 4000000 in
set_option maxRecDepth 100000 in
theorem mJ0_checkIndex_df160 (l : Launch) (E : HE) (sz : Nat) {g g' : PH} {a0 : Int32} {a1 : Int32} {r : Unit} (hf : fJ0_checkIndex_df160 g a0 a1 = some (r, g')) : hM l E yJ0_checkIndex_df160 cJ0_checkIndex_df160 2 none 1 22 0 0 sz g [.int a0, .int a1] none g' := by
  refine hM.of (by decide) (Nat.le_of_ble_eq_true rfl) (fun K hl C hin hsz => ?_)
  subst hl
  subst hsz
  have C : VC K E 2 cJ0_checkIndex_df160 RJ0 none := C
  unfold fJ0_checkIndex_df160 at hf
  refine V.start (L' := [(0, .int a0), (1, .int a1)]) rfl ?_
  refine V.iload_n (pc := 0) C dJ0_checkIndex_df160_0 0 rfl ?_
  refine V.iload_n (pc := 1) C dJ0_checkIndex_df160_1 1 rfl ?_
  refine V.gFormat (pc := 2) C wd_353 dJ0_checkIndex_df160_2 (fun q1 => ?_)
  replace hf := ob_some hf
  obtain ⟨q2, h3, hf⟩ := hf
  refine V.callS0i (pc := 5) C hyJ3_checkIndex_8e157 wd_509 (mJ3_checkIndex_8e157 (r := q2.1) (g' := q2.2) K.2.1 E (kS K) h3) rfl ⟨Nat.le_of_ble_eq_true rfl, Nat.le_of_ble_eq_true rfl⟩ (Nat.le_of_ble_eq_true rfl) dJ0_checkIndex_df160_5 ⟨Nat.zero_le _, Nat.zero_le _⟩ rfl ?_
  refine V.pop (pc := 8) C dJ0_checkIndex_df160_8 rfl ?_
  obtain ⟨f1, f2⟩ := fin2 hf
  clear hf
  subst f1
  subst f2
  exact V.vret (pc := 9) C rfl dJ0_checkIndex_df160_9
theorem dJ1_charAt_3b067_0 : decode cJ1_charAt_3b067 0 = .ok (.iload_n 1, 1) := by decide +kernel
theorem dJ1_charAt_3b067_1 : decode cJ1_charAt_3b067 1 = .ok (.aload_n 0, 1) := by decide +kernel
theorem dJ1_charAt_3b067_2 : decode cJ1_charAt_3b067 2 = .ok (.arraylength, 1) := by decide +kernel
theorem dJ1_charAt_3b067_3 : decode cJ1_charAt_3b067 3 = .ok (.invokestatic 9, 3) := by decide +kernel
theorem dJ1_charAt_3b067_6 : decode cJ1_charAt_3b067 6 = .ok (.aload_n 0, 1) := by decide +kernel
theorem dJ1_charAt_3b067_7 : decode cJ1_charAt_3b067 7 = .ok (.iload_n 1, 1) := by decide +kernel
theorem dJ1_charAt_3b067_8 : decode cJ1_charAt_3b067 8 = .ok (.baload, 1) := by decide +kernel
theorem dJ1_charAt_3b067_9 : decode cJ1_charAt_3b067 9 = .ok (.sipush 255, 3) := by decide +kernel
theorem dJ1_charAt_3b067_12 : decode cJ1_charAt_3b067 12 = .ok (.iand, 1) := by decide +kernel
theorem dJ1_charAt_3b067_13 : decode cJ1_charAt_3b067 13 = .ok (.i2c, 1) := by decide +kernel
theorem dJ1_charAt_3b067_14 : decode cJ1_charAt_3b067 14 = .ok (.ireturn, 1) := by decide +kernel
def fJ1_charAt_3b067 (g : PH) (a0 : Nat) (a1 : Int32) : Option (Int32 × PH) :=
  okb (decide (a0 < 15)) ((fJ0_checkIndex_df160 g a1 (Int32.ofNat (strB a0).length)).bind fun q2 =>
  (okb (decide (a0 < 15)) (okb (inb a1 (strB a0).length) (okb (vp_nar .char ((((strB a0).getD a1.toNatClampNeg 0) &&& (255 : Int32)).toUInt32 % 65536).toInt32 == ((((strB a0).getD a1.toNatClampNeg 0) &&& (255 : Int32)).toUInt32 % 65536).toInt32) (some (((((strB a0).getD a1.toNatClampNeg 0) &&& (255 : Int32)).toUInt32 % 65536).toInt32, q2.2))))))
theorem hyJ1_charAt_3b067 : hMetS yJ1_charAt_3b067 cJ1_charAt_3b067 2 (some .char) 2 := ⟨wd_505, wd_504, wd_10, by decide +kernel, by decide +kernel, by decide +kernel⟩
set_option maxHeartbeats 4000000 in
set_option maxRecDepth 100000 in
theorem mJ1_charAt_3b067 (l : Launch) (E : HE) (sz : Nat) {g g' : PH} {a0 : Nat} {a1 : Int32} {r : Int32} (hf : fJ1_charAt_3b067 g a0 a1 = some (r, g')) : hM l E yJ1_charAt_3b067 cJ1_charAt_3b067 2 (some .char) 2 43 0 0 sz g [.ref (eV E a0), .int a1] (some (.int r)) g' := by
  refine hM.of (by decide) (Nat.le_of_ble_eq_true rfl) (fun K hl C hin hsz => ?_)
  subst hl
  subst hsz
  have C : VC K E 2 cJ1_charAt_3b067 RJ1 (some .char) := C
  unfold fJ1_charAt_3b067 at hf
  refine V.start (L' := [(0, .ref (eV E a0)), (1, .int a1)]) rfl ?_
  refine V.iload_n (pc := 0) C dJ1_charAt_3b067_0 1 rfl ?_
  refine V.aload_n (pc := 1) C dJ1_charAt_3b067_1 0 rfl ?_
  replace hf := okb_some hf
  obtain ⟨h1, hf⟩ := hf
  refine V.slen (pc := 2) C (of_decide_eq_true h1) dJ1_charAt_3b067_2 ?_
  replace hf := ob_some hf
  obtain ⟨q2, h3, hf⟩ := hf
  refine V.callS0v (pc := 3) C hyJ0_checkIndex_df160 wd_506 (mJ0_checkIndex_df160 (r := q2.1) (g' := q2.2) K.2.1 E (kS K) h3) rfl ⟨Nat.le_of_ble_eq_true rfl, Nat.le_of_ble_eq_true rfl⟩ (Nat.le_of_ble_eq_true rfl) dJ1_charAt_3b067_3 ⟨Nat.zero_le _, Nat.zero_le _⟩ rfl ?_
  refine V.aload_n (pc := 6) C dJ1_charAt_3b067_6 0 rfl ?_
  refine V.iload_n (pc := 7) C dJ1_charAt_3b067_7 1 rfl ?_
  replace hf := okb_some hf
  obtain ⟨h4, hf⟩ := hf
  replace hf := okb_some hf
  obtain ⟨h5, hf⟩ := hf
  refine V.sbald (pc := 8) C (of_decide_eq_true h4) h5 dJ1_charAt_3b067_8 ?_
  refine V.sipush (pc := 9) C dJ1_charAt_3b067_9 (v := (255 : Int32)) (by decide) ?_
  refine V.iand (pc := 12) C dJ1_charAt_3b067_12 ?_
  refine V.i2c (pc := 13) C dJ1_charAt_3b067_13 ?_
  replace hf := okb_some hf
  obtain ⟨h6, hf⟩ := hf
  obtain ⟨f1, f2⟩ := fin2 hf
  clear hf
  subst f1
  subst f2
  exact V.zret (pc := 14) C (nar_c (eq_of_beq h6)) rfl dJ1_charAt_3b067_14
theorem dJ0_charAt_5068e_0 : decode cJ0_charAt_5068e 0 = .ok (.aload_n 0, 1) := by decide +kernel
theorem dJ0_charAt_5068e_1 : decode cJ0_charAt_5068e 1 = .ok (.invokevirtual 492, 3) := by decide +kernel
theorem dJ0_charAt_5068e_4 : decode cJ0_charAt_5068e 4 = .ok (.ifCond .eq 12, 3) := by decide +kernel
theorem dJ0_charAt_5068e_7 : decode cJ0_charAt_5068e 7 = .ok (.aload_n 0, 1) := by decide +kernel
theorem dJ0_charAt_5068e_8 : decode cJ0_charAt_5068e 8 = .ok (.getfield 9, 3) := by decide +kernel
theorem dJ0_charAt_5068e_11 : decode cJ0_charAt_5068e 11 = .ok (.iload_n 1, 1) := by decide +kernel
theorem dJ0_charAt_5068e_12 : decode cJ0_charAt_5068e 12 = .ok (.invokestatic 495, 3) := by decide +kernel
theorem dJ0_charAt_5068e_15 : decode cJ0_charAt_5068e 15 = .ok (.ireturn, 1) := by decide +kernel
theorem dJ0_charAt_5068e_16 : decode cJ0_charAt_5068e 16 = .ok (.aload_n 0, 1) := by decide +kernel
theorem dJ0_charAt_5068e_17 : decode cJ0_charAt_5068e 17 = .ok (.getfield 9, 3) := by decide +kernel
theorem dJ0_charAt_5068e_20 : decode cJ0_charAt_5068e 20 = .ok (.iload_n 1, 1) := by decide +kernel
theorem dJ0_charAt_5068e_21 : decode cJ0_charAt_5068e 21 = .ok (.invokestatic 498, 3) := by decide +kernel
theorem dJ0_charAt_5068e_24 : decode cJ0_charAt_5068e 24 = .ok (.ireturn, 1) := by decide +kernel
def fJ0_charAt_5068e (g : PH) (a0 : Nat) (a1 : Int32) : Option (Int32 × PH) :=
  okb (decide (a0 < 15)) ((fJ0_isLatin1_aae02 g a0).bind fun q1 =>
  (if q1.1 = 0 then (none) else
  (okb (decide (a0 < 15)) ((fJ1_charAt_3b067 q1.2 a0 a1).bind fun q5 =>
  (okb (vp_nar .char q5.1 == q5.1) (some (q5.1, q5.2)))))))
theorem oJ0_charAt_5068e {g : PH} {a0 : Nat} {a1 : Int32} {q : (Int32 × PH)} (h : fJ0_charAt_5068e g a0 a1 = some q) : decide (a0 < 15) = true := by unfold fJ0_charAt_5068e at h; exact (okb_some h).1
theorem hyJ0_charAt_5068e : hMet yJ0_charAt_5068e RJ0 cJ0_charAt_5068e 2 (some .char) 1 := ⟨wd_502, wd_500, wd_501, wd_9, rfl, by decide +kernel, by decide +kernel, by decide +kernel⟩
set_option maxHeartbeats 4000000 in
set_option maxRecDepth 100000 in
theorem mJ0_charAt_5068e (l : Launch) (E : HE) (sz : Nat) {g g' : PH} {a0 : Nat} {a1 : Int32} {r : Int32} (hf : fJ0_charAt_5068e g a0 a1 = some (r, g')) : hM l E yJ0_charAt_5068e cJ0_charAt_5068e 2 (some .char) 3 64 0 0 sz g [.ref (eK E a0), .int a1] (some (.int r)) g' := by
  refine hM.of (by decide) (Nat.le_of_ble_eq_true rfl) (fun K hl C hin hsz => ?_)
  subst hl
  subst hsz
  have C : VC K E 2 cJ0_charAt_5068e RJ0 (some .char) := C
  unfold fJ0_charAt_5068e at hf
  replace hf := okb_some hf
  obtain ⟨ho, hf⟩ := hf
  refine V.start (L' := [(0, .ref (eK E a0)), (1, .int a1)]) rfl ?_
  refine V.aload_n (pc := 0) C dJ0_charAt_5068e_0 0 rfl ?_
  replace hf := ob_some hf
  obtain ⟨q1, h2, hf⟩ := hf
  refine V.callVSi (pc := 1) C (of_decide_eq_true (oJ0_isLatin1_aae02 h2)) hyJ0_isLatin1_aae02 wd_310 (mJ0_isLatin1_aae02 (r := q1.1) (g' := q1.2) K.2.1 E (kS K) h2) rfl ⟨Nat.le_of_ble_eq_true rfl, Nat.le_of_ble_eq_true rfl⟩ (Nat.le_of_ble_eq_true rfl) dJ0_charAt_5068e_1 ⟨Nat.zero_le _, Nat.zero_le _⟩ rfl ?_
  refine V.if_eq (pc := 4) (t := 16) C dJ0_charAt_5068e_4 (by decide) (fun c3 => ?_) (fun c3 => ?_)
  · replace hf := ite_t c3 hf
    cases hf
  replace hf := ite_f c3 hf
  refine V.aload_n (pc := 7) C dJ0_charAt_5068e_7 0 rfl ?_
  replace hf := okb_some hf
  obtain ⟨h4, hf⟩ := hf
  refine V.sval (pc := 8) C (of_decide_eq_true h4) wd_1591 dJ0_charAt_5068e_8 ?_
  refine V.iload_n (pc := 11) C dJ0_charAt_5068e_11 1 rfl ?_
  replace hf := ob_some hf
  obtain ⟨q5, h6, hf⟩ := hf
  refine V.callS0i (pc := 12) C hyJ1_charAt_3b067 wd_503 (mJ1_charAt_3b067 (r := q5.1) (g' := q5.2) K.2.1 E (kS K) h6) rfl ⟨Nat.le_of_ble_eq_true rfl, Nat.le_of_ble_eq_true rfl⟩ (Nat.le_of_ble_eq_true rfl) dJ0_charAt_5068e_12 ⟨Nat.zero_le _, Nat.zero_le _⟩ rfl ?_
  replace hf := okb_some hf
  obtain ⟨h7, hf⟩ := hf
  obtain ⟨f1, f2⟩ := fin2 hf
  clear hf
  subst f1
  subst f2
  exact V.zret (pc := 15) C (nar_c (eq_of_beq h7)) rfl dJ0_charAt_5068e_15
theorem dJ1_indexOfChar_4cfef_0 : decode cJ1_indexOfChar_4cfef 0 = .ok (.iload_n 1, 1) := by decide +kernel
theorem dJ1_indexOfChar_4cfef_1 : decode cJ1_indexOfChar_4cfef 1 = .ok (.i2b, 1) := by decide +kernel
theorem dJ1_indexOfChar_4cfef_2 : decode cJ1_indexOfChar_4cfef 2 = .ok (.istore 4, 2) := by decide +kernel
theorem dJ1_indexOfChar_4cfef_4 : decode cJ1_indexOfChar_4cfef 4 = .ok (.iload_n 2, 1) := by decide +kernel
theorem dJ1_indexOfChar_4cfef_5 : decode cJ1_indexOfChar_4cfef 5 = .ok (.istore 5, 2) := by decide +kernel
theorem dJ1_indexOfChar_4cfef_7 : decode cJ1_indexOfChar_4cfef 7 = .ok (.iload 5, 2) := by decide +kernel
theorem dJ1_indexOfChar_4cfef_9 : decode cJ1_indexOfChar_4cfef 9 = .ok (.iload_n 3, 1) := by decide +kernel
theorem dJ1_indexOfChar_4cfef_10 : decode cJ1_indexOfChar_4cfef 10 = .ok (.if_icmp .ge 21, 3) := by decide +kernel
theorem dJ1_indexOfChar_4cfef_13 : decode cJ1_indexOfChar_4cfef 13 = .ok (.aload_n 0, 1) := by decide +kernel
theorem dJ1_indexOfChar_4cfef_14 : decode cJ1_indexOfChar_4cfef 14 = .ok (.iload 5, 2) := by decide +kernel
theorem dJ1_indexOfChar_4cfef_16 : decode cJ1_indexOfChar_4cfef 16 = .ok (.baload, 1) := by decide +kernel
theorem dJ1_indexOfChar_4cfef_17 : decode cJ1_indexOfChar_4cfef 17 = .ok (.iload 4, 2) := by decide +kernel
theorem dJ1_indexOfChar_4cfef_19 : decode cJ1_indexOfChar_4cfef 19 = .ok (.if_icmp .ne 6, 3) := by decide +kernel
theorem dJ1_indexOfChar_4cfef_22 : decode cJ1_indexOfChar_4cfef 22 = .ok (.iload 5, 2) := by decide +kernel
theorem dJ1_indexOfChar_4cfef_24 : decode cJ1_indexOfChar_4cfef 24 = .ok (.ireturn, 1) := by decide +kernel
theorem dJ1_indexOfChar_4cfef_25 : decode cJ1_indexOfChar_4cfef 25 = .ok (.iinc 5 1, 3) := by decide +kernel
theorem dJ1_indexOfChar_4cfef_28 : decode cJ1_indexOfChar_4cfef 28 = .ok (.goto (-21), 3) := by decide +kernel
theorem dJ1_indexOfChar_4cfef_31 : decode cJ1_indexOfChar_4cfef 31 = .ok (.iconst (-1), 1) := by decide +kernel
theorem dJ1_indexOfChar_4cfef_32 : decode cJ1_indexOfChar_4cfef 32 = .ok (.ireturn, 1) := by decide +kernel
def fJ1_indexOfChar_4cfef_7  : Nat → PH → Nat → Int32 → Int32 → Int32 → Option (Int32 × PH)
  | 0, _, _, _, _, _ => none
  | n + 1, g, v0, v3, v4, v5 =>
  if v3 ≤ v5 then (some ((-1 : Int32), g)) else
  (okb (decide (v0 < 15)) (okb (inb v5 (strB v0).length) (if ((strB v0).getD v5.toNatClampNeg 0) = v4 then (some (v5, g)) else
  (fJ1_indexOfChar_4cfef_7 n g v0 v3 v4 (v5 + (1 : Int32))))))
set_option maxHeartbeats 4000000 in
set_option maxRecDepth 100000 in
theorem bJ1_indexOfChar_4cfef_7 {K : HK} {E : HE} {r : Int32} {g' : PH}  (C : VC K E 6 cJ1_indexOfChar_4cfef RJ1 (some .int))  : ∀ (n : Nat) (g : PH) (v0 : Nat) (v3 : Int32) (v4 : Int32) (v5 : Int32), fJ1_indexOfChar_4cfef_7  n g v0 v3 v4 v5 = some (r, g') → V K E (hRm 0 0 0 0) 6 (hZ K E (some (.int r)) g' 0 0) 0 0 (kS K) g 7 [(0, .ref (eV E v0)), (3, .int v3), (4, .int v4), (5, .int v5)] [] := by
  intro n
  induction n with
  | zero =>
    intro g v0 v3 v4 v5 hf
    rw [fJ1_indexOfChar_4cfef_7] at hf
    cases hf
  | succ n ih =>
    intro g v0 v3 v4 v5 hf
    rw [fJ1_indexOfChar_4cfef_7] at hf
    refine V.iload (pc := 7) C dJ1_indexOfChar_4cfef_7 3 rfl ?_
    refine V.iload_n (pc := 9) C dJ1_indexOfChar_4cfef_9 1 rfl ?_
    refine V.icmp_ge (pc := 10) (t := 31) C dJ1_indexOfChar_4cfef_10 (by decide) (fun c1 => ?_) (fun c1 => ?_)
    · replace hf := ite_t c1 hf
      refine V.iconst (pc := 31) C dJ1_indexOfChar_4cfef_31 (v := (-1 : Int32)) (by decide) ?_
      obtain ⟨f1, f2⟩ := fin2 hf
      clear hf
      subst f1
      subst f2
      exact V.iret (pc := 32) C rfl dJ1_indexOfChar_4cfef_32
    replace hf := ite_f c1 hf
    refine V.aload_n (pc := 13) C dJ1_indexOfChar_4cfef_13 0 rfl ?_
    refine V.iload (pc := 14) C dJ1_indexOfChar_4cfef_14 3 rfl ?_
    replace hf := okb_some hf
    obtain ⟨h2, hf⟩ := hf
    replace hf := okb_some hf
    obtain ⟨h3, hf⟩ := hf
    refine V.sbald (pc := 16) C (of_decide_eq_true h2) h3 dJ1_indexOfChar_4cfef_16 ?_
    refine V.iload (pc := 17) C dJ1_indexOfChar_4cfef_17 2 rfl ?_
    refine V.icmp_ne (pc := 19) (t := 25) C dJ1_indexOfChar_4cfef_19 (by decide) (fun c4 => ?_) (fun c4 => ?_)
    · replace hf := ite_f c4 hf
      refine V.iinc (pc := 25) (v := (v5 + (1 : Int32))) (L' := [(5, .int (v5 + (1 : Int32))), (0, .ref (eV E v0)), (3, .int v3), (4, .int v4)]) C dJ1_indexOfChar_4cfef_25 3 rfl rfl (by decide) rfl ?_
      refine V.goto (pc := 28) (t := 7) C dJ1_indexOfChar_4cfef_28 (by decide) ?_
      refine V.sub (L' := [(0, .ref (eV E v0)), (3, .int v3), (4, .int v4), (5, .int (v5 + (1 : Int32)))]) [1, 2, 3, 0] rfl ?_
      exact ih _ _ _ _ _ hf
    replace hf := ite_t c4 hf
    refine V.iload (pc := 22) C dJ1_indexOfChar_4cfef_22 3 rfl ?_
    obtain ⟨f1, f2⟩ := fin2 hf
    clear hf
    subst f1
    subst f2
    exact V.iret (pc := 24) C rfl dJ1_indexOfChar_4cfef_24
def fJ1_indexOfChar_4cfef (g : PH) (a0 : Nat) (a1 : Int32) (a2 : Int32) (a3 : Int32) : Option (Int32 × PH) :=
  fJ1_indexOfChar_4cfef_7 FUEL g a0 a3 a1.toInt8.toInt32 a2
theorem hyJ1_indexOfChar_4cfef : hMetS yJ1_indexOfChar_4cfef cJ1_indexOfChar_4cfef 6 (some .int) 4 := ⟨wd_334, wd_333, wd_10, by decide +kernel, by decide +kernel, by decide +kernel⟩
set_option maxHeartbeats 4000000 in
set_option maxRecDepth 100000 in
theorem mJ1_indexOfChar_4cfef (l : Launch) (E : HE) (sz : Nat) {g g' : PH} {a0 : Nat} {a1 : Int32} {a2 : Int32} {a3 : Int32} {r : Int32} (hf : fJ1_indexOfChar_4cfef g a0 a1 a2 a3 = some (r, g')) : hM l E yJ1_indexOfChar_4cfef cJ1_indexOfChar_4cfef 6 (some .int) 0 0 0 0 sz g [.ref (eV E a0), .int a1, .int a2, .int a3] (some (.int r)) g' := by
  refine hM.of (by decide) (Nat.le_of_ble_eq_true rfl) (fun K hl C hin hsz => ?_)
  subst hl
  subst hsz
  have C : VC K E 6 cJ1_indexOfChar_4cfef RJ1 (some .int) := C
  unfold fJ1_indexOfChar_4cfef at hf
  refine V.start (L' := [(0, .ref (eV E a0)), (1, .int a1), (2, .int a2), (3, .int a3)]) rfl ?_
  refine V.iload_n (pc := 0) C dJ1_indexOfChar_4cfef_0 1 rfl ?_
  refine V.i2b (pc := 1) C dJ1_indexOfChar_4cfef_1 ?_
  refine V.istore (pc := 2) (L' := [(4, .int a1.toInt8.toInt32), (0, .ref (eV E a0)), (1, .int a1), (2, .int a2), (3, .int a3)]) C dJ1_indexOfChar_4cfef_2 (by decide) rfl ?_
  refine V.iload_n (pc := 4) C dJ1_indexOfChar_4cfef_4 3 rfl ?_
  refine V.istore (pc := 5) (L' := [(5, .int a2), (4, .int a1.toInt8.toInt32), (0, .ref (eV E a0)), (1, .int a1), (2, .int a2), (3, .int a3)]) C dJ1_indexOfChar_4cfef_5 (by decide) rfl ?_
  refine V.sub (L' := [(0, .ref (eV E a0)), (3, .int a3), (4, .int a1.toInt8.toInt32), (5, .int a2)]) [2, 5, 1, 0] rfl ?_
  exact bJ1_indexOfChar_4cfef_7 C  _ _ _ _ _ _ hf
theorem dJ1_indexOf_4cfef_0 : decode cJ1_indexOf_4cfef 0 = .ok (.iload_n 1, 1) := by decide +kernel
theorem dJ1_indexOf_4cfef_1 : decode cJ1_indexOf_4cfef 1 = .ok (.invokestatic 88, 3) := by decide +kernel
theorem dJ1_indexOf_4cfef_4 : decode cJ1_indexOf_4cfef 4 = .ok (.ifCond .ne 5, 3) := by decide +kernel
theorem dJ1_indexOf_4cfef_7 : decode cJ1_indexOf_4cfef 7 = .ok (.iconst (-1), 1) := by decide +kernel
theorem dJ1_indexOf_4cfef_8 : decode cJ1_indexOf_4cfef 8 = .ok (.ireturn, 1) := by decide +kernel
theorem dJ1_indexOf_4cfef_9 : decode cJ1_indexOf_4cfef 9 = .ok (.iload_n 2, 1) := by decide +kernel
theorem dJ1_indexOf_4cfef_10 : decode cJ1_indexOf_4cfef 10 = .ok (.iconst 0, 1) := by decide +kernel
theorem dJ1_indexOf_4cfef_11 : decode cJ1_indexOf_4cfef 11 = .ok (.invokestatic 92, 3) := by decide +kernel
theorem dJ1_indexOf_4cfef_14 : decode cJ1_indexOf_4cfef 14 = .ok (.istore_n 2, 1) := by decide +kernel
theorem dJ1_indexOf_4cfef_15 : decode cJ1_indexOf_4cfef 15 = .ok (.iload_n 3, 1) := by decide +kernel
theorem dJ1_indexOf_4cfef_16 : decode cJ1_indexOf_4cfef 16 = .ok (.aload_n 0, 1) := by decide +kernel
theorem dJ1_indexOf_4cfef_17 : decode cJ1_indexOf_4cfef 17 = .ok (.arraylength, 1) := by decide +kernel
theorem dJ1_indexOf_4cfef_18 : decode cJ1_indexOf_4cfef 18 = .ok (.invokestatic 38, 3) := by decide +kernel
theorem dJ1_indexOf_4cfef_21 : decode cJ1_indexOf_4cfef 21 = .ok (.istore_n 3, 1) := by decide +kernel
theorem dJ1_indexOf_4cfef_22 : decode cJ1_indexOf_4cfef 22 = .ok (.iload_n 2, 1) := by decide +kernel
theorem dJ1_indexOf_4cfef_23 : decode cJ1_indexOf_4cfef 23 = .ok (.iload_n 3, 1) := by decide +kernel
theorem dJ1_indexOf_4cfef_24 : decode cJ1_indexOf_4cfef 24 = .ok (.if_icmp .lt 5, 3) := by decide +kernel
theorem dJ1_indexOf_4cfef_27 : decode cJ1_indexOf_4cfef 27 = .ok (.iconst (-1), 1) := by decide +kernel
theorem dJ1_indexOf_4cfef_28 : decode cJ1_indexOf_4cfef 28 = .ok (.ireturn, 1) := by decide +kernel
theorem dJ1_indexOf_4cfef_29 : decode cJ1_indexOf_4cfef 29 = .ok (.aload_n 0, 1) := by decide +kernel
theorem dJ1_indexOf_4cfef_30 : decode cJ1_indexOf_4cfef 30 = .ok (.iload_n 1, 1) := by decide +kernel
theorem dJ1_indexOf_4cfef_31 : decode cJ1_indexOf_4cfef 31 = .ok (.iload_n 2, 1) := by decide +kernel
theorem dJ1_indexOf_4cfef_32 : decode cJ1_indexOf_4cfef 32 = .ok (.iload_n 3, 1) := by decide +kernel
theorem dJ1_indexOf_4cfef_33 : decode cJ1_indexOf_4cfef 33 = .ok (.invokestatic 95, 3) := by decide +kernel
theorem dJ1_indexOf_4cfef_36 : decode cJ1_indexOf_4cfef 36 = .ok (.ireturn, 1) := by decide +kernel
def fJ1_indexOf_4cfef (g : PH) (a0 : Nat) (a1 : Int32) (a2 : Int32) (a3 : Int32) : Option (Int32 × PH) :=
  (fJ1_canEncode_9a6ad g a1).bind fun q1 =>
  (if q1.1 = 0 then (some ((-1 : Int32), q1.2)) else
  (okb (decide (a0 < 15)) (if (if a2 < (0 : Int32) then (0 : Int32) else a2) < (if (Int32.ofNat (strB a0).length) < a3 then (Int32.ofNat (strB a0).length) else a3) then ((fJ1_indexOfChar_4cfef q1.2 a0 a1 (if a2 < (0 : Int32) then (0 : Int32) else a2) (if (Int32.ofNat (strB a0).length) < a3 then (Int32.ofNat (strB a0).length) else a3)).bind fun q6 =>
  (some (q6.1, q6.2))) else
  (some ((-1 : Int32), q1.2)))))
theorem hyJ1_indexOf_4cfef : hMetS yJ1_indexOf_4cfef cJ1_indexOf_4cfef 4 (some .int) 4 := ⟨wd_326, wd_325, wd_10, by decide +kernel, by decide +kernel, by decide +kernel⟩
set_option maxHeartbeats 4000000 in
set_option maxRecDepth 100000 in
theorem mJ1_indexOf_4cfef (l : Launch) (E : HE) (sz : Nat) {g g' : PH} {a0 : Nat} {a1 : Int32} {a2 : Int32} {a3 : Int32} {r : Int32} (hf : fJ1_indexOf_4cfef g a0 a1 a2 a3 = some (r, g')) : hM l E yJ1_indexOf_4cfef cJ1_indexOf_4cfef 4 (some .int) 1 25 0 0 sz g [.ref (eV E a0), .int a1, .int a2, .int a3] (some (.int r)) g' := by
  refine hM.of (by decide) (Nat.le_of_ble_eq_true rfl) (fun K hl C hin hsz => ?_)
  subst hl
  subst hsz
  have C : VC K E 4 cJ1_indexOf_4cfef RJ1 (some .int) := C
  unfold fJ1_indexOf_4cfef at hf
  refine V.start (L' := [(0, .ref (eV E a0)), (1, .int a1), (2, .int a2), (3, .int a3)]) rfl ?_
  refine V.iload_n (pc := 0) C dJ1_indexOf_4cfef_0 1 rfl ?_
  replace hf := ob_some hf
  obtain ⟨q1, h2, hf⟩ := hf
  refine V.callS0i (pc := 1) C hyJ1_canEncode_9a6ad wd_327 (mJ1_canEncode_9a6ad (r := q1.1) (g' := q1.2) K.2.1 E (kS K) h2) rfl ⟨Nat.le_of_ble_eq_true rfl, Nat.le_of_ble_eq_true rfl⟩ (Nat.le_of_ble_eq_true rfl) dJ1_indexOf_4cfef_1 ⟨Nat.zero_le _, Nat.zero_le _⟩ rfl ?_
  refine V.if_ne (pc := 4) (t := 9) C dJ1_indexOf_4cfef_4 (by decide) (fun c3 => ?_) (fun c3 => ?_)
  · replace hf := ite_f c3 hf
    refine V.iload_n (pc := 9) C dJ1_indexOf_4cfef_9 2 rfl ?_
    refine V.iconst (pc := 10) C dJ1_indexOf_4cfef_10 (v := (0 : Int32)) (by decide) ?_
    refine V.mmax (pc := 11) C wd_330 wd_163 wd_6 wd_164 ⟨Nat.le_of_ble_eq_true rfl, Nat.le_of_ble_eq_true rfl⟩ (Nat.le_of_ble_eq_true rfl) ⟨Nat.zero_le _, Nat.zero_le _⟩ dJ1_indexOf_4cfef_11 ?_
    refine V.istore_n (pc := 14) (L' := [(2, .int (if a2 < (0 : Int32) then (0 : Int32) else a2)), (0, .ref (eV E a0)), (1, .int a1), (3, .int a3)]) C dJ1_indexOf_4cfef_14 (by decide) rfl ?_
    refine V.iload_n (pc := 15) C dJ1_indexOf_4cfef_15 3 rfl ?_
    refine V.aload_n (pc := 16) C dJ1_indexOf_4cfef_16 1 rfl ?_
    replace hf := okb_some hf
    obtain ⟨h4, hf⟩ := hf
    refine V.slen (pc := 17) C (of_decide_eq_true h4) dJ1_indexOf_4cfef_17 ?_
    refine V.mmin (pc := 18) C wd_331 wd_160 wd_6 wd_161 ⟨Nat.le_of_ble_eq_true rfl, Nat.le_of_ble_eq_true rfl⟩ (Nat.le_of_ble_eq_true rfl) ⟨Nat.zero_le _, Nat.zero_le _⟩ dJ1_indexOf_4cfef_18 ?_
    refine V.istore_n (pc := 21) (L' := [(3, .int (if (Int32.ofNat (strB a0).length) < a3 then (Int32.ofNat (strB a0).length) else a3)), (2, .int (if a2 < (0 : Int32) then (0 : Int32) else a2)), (0, .ref (eV E a0)), (1, .int a1)]) C dJ1_indexOf_4cfef_21 (by decide) rfl ?_
    refine V.iload_n (pc := 22) C dJ1_indexOf_4cfef_22 1 rfl ?_
    refine V.iload_n (pc := 23) C dJ1_indexOf_4cfef_23 0 rfl ?_
    refine V.icmp_lt (pc := 24) (t := 29) C dJ1_indexOf_4cfef_24 (by decide) (fun c5 => ?_) (fun c5 => ?_)
    · replace hf := ite_t c5 hf
      refine V.aload_n (pc := 29) C dJ1_indexOf_4cfef_29 2 rfl ?_
      refine V.iload_n (pc := 30) C dJ1_indexOf_4cfef_30 3 rfl ?_
      refine V.iload_n (pc := 31) C dJ1_indexOf_4cfef_31 1 rfl ?_
      refine V.iload_n (pc := 32) C dJ1_indexOf_4cfef_32 0 rfl ?_
      replace hf := ob_some hf
      obtain ⟨q6, h7, hf⟩ := hf
      refine V.callS0i (pc := 33) C hyJ1_indexOfChar_4cfef wd_332 (mJ1_indexOfChar_4cfef (r := q6.1) (g' := q6.2) K.2.1 E (kS K) h7) rfl ⟨Nat.le_of_ble_eq_true rfl, Nat.le_of_ble_eq_true rfl⟩ (Nat.le_of_ble_eq_true rfl) dJ1_indexOf_4cfef_33 ⟨Nat.zero_le _, Nat.zero_le _⟩ rfl ?_
      obtain ⟨f1, f2⟩ := fin2 hf
      clear hf
      subst f1
      subst f2
      exact V.iret (pc := 36) C rfl dJ1_indexOf_4cfef_36
    replace hf := ite_f c5 hf
    refine V.iconst (pc := 27) C dJ1_indexOf_4cfef_27 (v := (-1 : Int32)) (by decide) ?_
    obtain ⟨f1, f2⟩ := fin2 hf
    clear hf
    subst f1
    subst f2
    exact V.iret (pc := 28) C rfl dJ1_indexOf_4cfef_28
  replace hf := ite_t c3 hf
  refine V.iconst (pc := 7) C dJ1_indexOf_4cfef_7 (v := (-1 : Int32)) (by decide) ?_
  obtain ⟨f1, f2⟩ := fin2 hf
  clear hf
  subst f1
  subst f2
  exact V.iret (pc := 8) C rfl dJ1_indexOf_4cfef_8
theorem dJ0_indexOf_7cf53_0 : decode cJ0_indexOf_7cf53 0 = .ok (.aload_n 0, 1) := by decide +kernel
theorem dJ0_indexOf_7cf53_1 : decode cJ0_indexOf_7cf53 1 = .ok (.invokevirtual 492, 3) := by decide +kernel
theorem dJ0_indexOf_7cf53_4 : decode cJ0_indexOf_7cf53 4 = .ok (.ifCond .eq 19, 3) := by decide +kernel
theorem dJ0_indexOf_7cf53_7 : decode cJ0_indexOf_7cf53 7 = .ok (.aload_n 0, 1) := by decide +kernel
theorem dJ0_indexOf_7cf53_8 : decode cJ0_indexOf_7cf53 8 = .ok (.getfield 9, 3) := by decide +kernel
theorem dJ0_indexOf_7cf53_11 : decode cJ0_indexOf_7cf53 11 = .ok (.iload_n 1, 1) := by decide +kernel
theorem dJ0_indexOf_7cf53_12 : decode cJ0_indexOf_7cf53 12 = .ok (.iload_n 2, 1) := by decide +kernel
theorem dJ0_indexOf_7cf53_13 : decode cJ0_indexOf_7cf53 13 = .ok (.aload_n 0, 1) := by decide +kernel
theorem dJ0_indexOf_7cf53_14 : decode cJ0_indexOf_7cf53 14 = .ok (.invokevirtual 505, 3) := by decide +kernel
theorem dJ0_indexOf_7cf53_17 : decode cJ0_indexOf_7cf53 17 = .ok (.invokestatic 637, 3) := by decide +kernel
theorem dJ0_indexOf_7cf53_20 : decode cJ0_indexOf_7cf53 20 = .ok (.goto 16, 3) := by decide +kernel
theorem dJ0_indexOf_7cf53_23 : decode cJ0_indexOf_7cf53 23 = .ok (.aload_n 0, 1) := by decide +kernel
theorem dJ0_indexOf_7cf53_24 : decode cJ0_indexOf_7cf53 24 = .ok (.getfield 9, 3) := by decide +kernel
theorem dJ0_indexOf_7cf53_27 : decode cJ0_indexOf_7cf53 27 = .ok (.iload_n 1, 1) := by decide +kernel
theorem dJ0_indexOf_7cf53_28 : decode cJ0_indexOf_7cf53 28 = .ok (.iload_n 2, 1) := by decide +kernel
theorem dJ0_indexOf_7cf53_29 : decode cJ0_indexOf_7cf53 29 = .ok (.aload_n 0, 1) := by decide +kernel
theorem dJ0_indexOf_7cf53_30 : decode cJ0_indexOf_7cf53 30 = .ok (.invokevirtual 505, 3) := by decide +kernel
theorem dJ0_indexOf_7cf53_33 : decode cJ0_indexOf_7cf53 33 = .ok (.invokestatic 640, 3) := by decide +kernel
theorem dJ0_indexOf_7cf53_36 : decode cJ0_indexOf_7cf53 36 = .ok (.ireturn, 1) := by decide +kernel
def fJ0_indexOf_7cf53 (g : PH) (a0 : Nat) (a1 : Int32) (a2 : Int32) : Option (Int32 × PH) :=
  okb (decide (a0 < 15)) ((fJ0_isLatin1_aae02 g a0).bind fun q1 =>
  (if q1.1 = 0 then (none) else
  (okb (decide (a0 < 15)) ((fJ0_length_8abf5 q1.2 a0).bind fun q5 =>
  ((fJ1_indexOf_4cfef q5.2 a0 a1 a2 q5.1).bind fun q7 =>
  (some (q7.1, q7.2)))))))
theorem oJ0_indexOf_7cf53 {g : PH} {a0 : Nat} {a1 : Int32} {a2 : Int32} {q : (Int32 × PH)} (h : fJ0_indexOf_7cf53 g a0 a1 a2 = some q) : decide (a0 < 15) = true := by unfold fJ0_indexOf_7cf53 at h; exact (okb_some h).1
theorem hyJ0_indexOf_7cf53 : hMet yJ0_indexOf_7cf53 RJ0 cJ0_indexOf_7cf53 3 (some .int) 2 := ⟨wd_309, wd_307, wd_308, wd_9, rfl, by decide +kernel, by decide +kernel, by decide +kernel⟩
set_option maxHeartbeats 4000000 in
set_option maxRecDepth 100000 in
theorem mJ0_indexOf_7cf53 (l : Launch) (E : HE) (sz : Nat) {g g' : PH} {a0 : Nat} {a1 : Int32} {a2 : Int32} {r : Int32} (hf : fJ0_indexOf_7cf53 g a0 a1 a2 = some (r, g')) : hM l E yJ0_indexOf_7cf53 cJ0_indexOf_7cf53 3 (some .int) 2 48 0 0 sz g [.ref (eK E a0), .int a1, .int a2] (some (.int r)) g' := by
  refine hM.of (by decide) (Nat.le_of_ble_eq_true rfl) (fun K hl C hin hsz => ?_)
  subst hl
  subst hsz
  have C : VC K E 3 cJ0_indexOf_7cf53 RJ0 (some .int) := C
  unfold fJ0_indexOf_7cf53 at hf
  replace hf := okb_some hf
  obtain ⟨ho, hf⟩ := hf
  refine V.start (L' := [(0, .ref (eK E a0)), (1, .int a1), (2, .int a2)]) rfl ?_
  refine V.aload_n (pc := 0) C dJ0_indexOf_7cf53_0 0 rfl ?_
  replace hf := ob_some hf
  obtain ⟨q1, h2, hf⟩ := hf
  refine V.callVSi (pc := 1) C (of_decide_eq_true (oJ0_isLatin1_aae02 h2)) hyJ0_isLatin1_aae02 wd_310 (mJ0_isLatin1_aae02 (r := q1.1) (g' := q1.2) K.2.1 E (kS K) h2) rfl ⟨Nat.le_of_ble_eq_true rfl, Nat.le_of_ble_eq_true rfl⟩ (Nat.le_of_ble_eq_true rfl) dJ0_indexOf_7cf53_1 ⟨Nat.zero_le _, Nat.zero_le _⟩ rfl ?_
  refine V.if_eq (pc := 4) (t := 23) C dJ0_indexOf_7cf53_4 (by decide) (fun c3 => ?_) (fun c3 => ?_)
  · replace hf := ite_t c3 hf
    cases hf
  replace hf := ite_f c3 hf
  refine V.aload_n (pc := 7) C dJ0_indexOf_7cf53_7 0 rfl ?_
  replace hf := okb_some hf
  obtain ⟨h4, hf⟩ := hf
  refine V.sval (pc := 8) C (of_decide_eq_true h4) wd_1591 dJ0_indexOf_7cf53_8 ?_
  refine V.iload_n (pc := 11) C dJ0_indexOf_7cf53_11 1 rfl ?_
  refine V.iload_n (pc := 12) C dJ0_indexOf_7cf53_12 2 rfl ?_
  refine V.aload_n (pc := 13) C dJ0_indexOf_7cf53_13 0 rfl ?_
  replace hf := ob_some hf
  obtain ⟨q5, h6, hf⟩ := hf
  refine V.callVSi (pc := 14) C (of_decide_eq_true (oJ0_length_8abf5 h6)) hyJ0_length_8abf5 wd_316 (mJ0_length_8abf5 (r := q5.1) (g' := q5.2) K.2.1 E (kS K) h6) rfl ⟨Nat.le_of_ble_eq_true rfl, Nat.le_of_ble_eq_true rfl⟩ (Nat.le_of_ble_eq_true rfl) dJ0_indexOf_7cf53_14 ⟨Nat.zero_le _, Nat.zero_le _⟩ rfl ?_
  replace hf := ob_some hf
  obtain ⟨q7, h8, hf⟩ := hf
  refine V.callS0i (pc := 17) C hyJ1_indexOf_4cfef wd_324 (mJ1_indexOf_4cfef (r := q7.1) (g' := q7.2) K.2.1 E (kS K) h8) rfl ⟨Nat.le_of_ble_eq_true rfl, Nat.le_of_ble_eq_true rfl⟩ (Nat.le_of_ble_eq_true rfl) dJ0_indexOf_7cf53_17 ⟨Nat.zero_le _, Nat.zero_le _⟩ rfl ?_
  refine V.goto (pc := 20) (t := 36) C dJ0_indexOf_7cf53_20 (by decide) ?_
  obtain ⟨f1, f2⟩ := fin2 hf
  clear hf
  subst f1
  subst f2
  exact V.iret (pc := 36) C rfl dJ0_indexOf_7cf53_36
theorem dJ0_indexOf_0f7a4_0 : decode cJ0_indexOf_0f7a4 0 = .ok (.aload_n 0, 1) := by decide +kernel
theorem dJ0_indexOf_0f7a4_1 : decode cJ0_indexOf_0f7a4 1 = .ok (.iload_n 1, 1) := by decide +kernel
theorem dJ0_indexOf_0f7a4_2 : decode cJ0_indexOf_0f7a4 2 = .ok (.iconst 0, 1) := by decide +kernel
theorem dJ0_indexOf_0f7a4_3 : decode cJ0_indexOf_0f7a4 3 = .ok (.invokevirtual 633, 3) := by decide +kernel
theorem dJ0_indexOf_0f7a4_6 : decode cJ0_indexOf_0f7a4 6 = .ok (.ireturn, 1) := by decide +kernel
def fJ0_indexOf_0f7a4 (g : PH) (a0 : Nat) (a1 : Int32) : Option (Int32 × PH) :=
  okb (decide (a0 < 15)) ((fJ0_indexOf_7cf53 g a0 a1 (0 : Int32)).bind fun q1 =>
  (some (q1.1, q1.2)))
theorem oJ0_indexOf_0f7a4 {g : PH} {a0 : Nat} {a1 : Int32} {q : (Int32 × PH)} (h : fJ0_indexOf_0f7a4 g a0 a1 = some q) : decide (a0 < 15) = true := by unfold fJ0_indexOf_0f7a4 at h; exact (okb_some h).1
theorem hyJ0_indexOf_0f7a4 : hMet yJ0_indexOf_0f7a4 RJ0 cJ0_indexOf_0f7a4 2 (some .int) 1 := ⟨wd_305, wd_303, wd_304, wd_9, rfl, by decide +kernel, by decide +kernel, by decide +kernel⟩
set_option maxHeartbeats 4000000 in
set_option maxRecDepth 100000 in
theorem mJ0_indexOf_0f7a4 (l : Launch) (E : HE) (sz : Nat) {g g' : PH} {a0 : Nat} {a1 : Int32} {r : Int32} (hf : fJ0_indexOf_0f7a4 g a0 a1 = some (r, g')) : hM l E yJ0_indexOf_0f7a4 cJ0_indexOf_0f7a4 2 (some .int) 3 70 0 0 sz g [.ref (eK E a0), .int a1] (some (.int r)) g' := by
  refine hM.of (by decide) (Nat.le_of_ble_eq_true rfl) (fun K hl C hin hsz => ?_)
  subst hl
  subst hsz
  have C : VC K E 2 cJ0_indexOf_0f7a4 RJ0 (some .int) := C
  unfold fJ0_indexOf_0f7a4 at hf
  replace hf := okb_some hf
  obtain ⟨ho, hf⟩ := hf
  refine V.start (L' := [(0, .ref (eK E a0)), (1, .int a1)]) rfl ?_
  refine V.aload_n (pc := 0) C dJ0_indexOf_0f7a4_0 0 rfl ?_
  refine V.iload_n (pc := 1) C dJ0_indexOf_0f7a4_1 1 rfl ?_
  refine V.iconst (pc := 2) C dJ0_indexOf_0f7a4_2 (v := (0 : Int32)) (by decide) ?_
  replace hf := ob_some hf
  obtain ⟨q1, h2, hf⟩ := hf
  refine V.callVSi (pc := 3) C (of_decide_eq_true (oJ0_indexOf_7cf53 h2)) hyJ0_indexOf_7cf53 wd_306 (mJ0_indexOf_7cf53 (r := q1.1) (g' := q1.2) K.2.1 E (kS K) h2) rfl ⟨Nat.le_of_ble_eq_true rfl, Nat.le_of_ble_eq_true rfl⟩ (Nat.le_of_ble_eq_true rfl) dJ0_indexOf_0f7a4_3 ⟨Nat.zero_le _, Nat.zero_le _⟩ rfl ?_
  obtain ⟨f1, f2⟩ := fin2 hf
  clear hf
  subst f1
  subst f2
  exact V.iret (pc := 6) C rfl dJ0_indexOf_0f7a4_6
theorem dJ7_fill_53178_0 : decode cJ7_fill_53178 0 = .ok (.iconst 0, 1) := by decide +kernel
theorem dJ7_fill_53178_1 : decode cJ7_fill_53178 1 = .ok (.istore_n 2, 1) := by decide +kernel
theorem dJ7_fill_53178_2 : decode cJ7_fill_53178 2 = .ok (.aload_n 0, 1) := by decide +kernel
theorem dJ7_fill_53178_3 : decode cJ7_fill_53178 3 = .ok (.arraylength, 1) := by decide +kernel
theorem dJ7_fill_53178_4 : decode cJ7_fill_53178 4 = .ok (.istore_n 3, 1) := by decide +kernel
theorem dJ7_fill_53178_5 : decode cJ7_fill_53178 5 = .ok (.iload_n 2, 1) := by decide +kernel
theorem dJ7_fill_53178_6 : decode cJ7_fill_53178 6 = .ok (.iload_n 3, 1) := by decide +kernel
theorem dJ7_fill_53178_7 : decode cJ7_fill_53178 7 = .ok (.if_icmp .ge 13, 3) := by decide +kernel
theorem dJ7_fill_53178_10 : decode cJ7_fill_53178 10 = .ok (.aload_n 0, 1) := by decide +kernel
theorem dJ7_fill_53178_11 : decode cJ7_fill_53178 11 = .ok (.iload_n 2, 1) := by decide +kernel
theorem dJ7_fill_53178_12 : decode cJ7_fill_53178 12 = .ok (.iload_n 1, 1) := by decide +kernel
theorem dJ7_fill_53178_13 : decode cJ7_fill_53178 13 = .ok (.iastore, 1) := by decide +kernel
theorem dJ7_fill_53178_14 : decode cJ7_fill_53178 14 = .ok (.iinc 2 1, 3) := by decide +kernel
theorem dJ7_fill_53178_17 : decode cJ7_fill_53178 17 = .ok (.goto (-12), 3) := by decide +kernel
theorem dJ7_fill_53178_20 : decode cJ7_fill_53178 20 = .ok (.return_, 1) := by decide +kernel
def fJ7_fill_53178_5  : Nat → PH → Nat → Int32 → Int32 → Int32 → Option (Unit × PH)
  | 0, _, _, _, _, _ => none
  | n + 1, g, v0, v1, v2, v3 =>
  if v3 ≤ v2 then (some ((), g)) else
  ((stI g v0 0 v2 v1).bind fun g2 =>
  (fJ7_fill_53178_5 n g2 v0 v1 (v2 + (1 : Int32)) v3))
set_option maxHeartbeats 4000000 in
set_option maxRecDepth 100000 in
theorem bJ7_fill_53178_5 {K : HK} {E : HE} {r : Unit} {g' : PH}  (C : VC K E 4 cJ7_fill_53178 RJ7 none)  : ∀ (n : Nat) (g : PH) (v0 : Nat) (v1 : Int32) (v2 : Int32) (v3 : Int32), fJ7_fill_53178_5  n g v0 v1 v2 v3 = some (r, g') → V K E (hRm 0 0 0 0) 4 (hZ K E none g' 0 0) 0 0 (kS K) g 5 [(0, .ref v0), (1, .int v1), (2, .int v2), (3, .int v3)] [] := by
  intro n
  induction n with
  | zero =>
    intro g v0 v1 v2 v3 hf
    rw [fJ7_fill_53178_5] at hf
    cases hf
  | succ n ih =>
    intro g v0 v1 v2 v3 hf
    rw [fJ7_fill_53178_5] at hf
    refine V.iload_n (pc := 5) C dJ7_fill_53178_5 2 rfl ?_
    refine V.iload_n (pc := 6) C dJ7_fill_53178_6 3 rfl ?_
    refine V.icmp_ge (pc := 7) (t := 20) C dJ7_fill_53178_7 (by decide) (fun c1 => ?_) (fun c1 => ?_)
    · replace hf := ite_t c1 hf
      obtain ⟨f1, f2⟩ := fin2 hf
      clear hf
      subst f1
      subst f2
      exact V.vret (pc := 20) C rfl dJ7_fill_53178_20
    replace hf := ite_f c1 hf
    refine V.aload_n (pc := 10) C dJ7_fill_53178_10 0 rfl ?_
    refine V.iload_n (pc := 11) C dJ7_fill_53178_11 2 rfl ?_
    refine V.iload_n (pc := 12) C dJ7_fill_53178_12 1 rfl ?_
    replace hf := ob_some hf
    obtain ⟨g2, h3, hf⟩ := hf
    refine V.iast (pc := 13) C h3 dJ7_fill_53178_13 ?_
    refine V.iinc (pc := 14) (v := (v2 + (1 : Int32))) (L' := [(2, .int (v2 + (1 : Int32))), (0, .ref v0), (1, .int v1), (3, .int v3)]) C dJ7_fill_53178_14 2 rfl rfl (by decide) rfl ?_
    refine V.goto (pc := 17) (t := 5) C dJ7_fill_53178_17 (by decide) ?_
    refine V.sub (L' := [(0, .ref v0), (1, .int v1), (2, .int (v2 + (1 : Int32))), (3, .int v3)]) [1, 2, 0, 3] rfl ?_
    exact ih _ _ _ _ _ hf
def fJ7_fill_53178 (g : PH) (a0 : Nat) (a1 : Int32) : Option (Unit × PH) :=
  (alen g a0).bind fun x1 =>
  (fJ7_fill_53178_5 FUEL g a0 a1 (0 : Int32) x1)
theorem hyJ7_fill_53178 : hMetS yJ7_fill_53178 cJ7_fill_53178 4 none 2 := ⟨wd_768, wd_767, wd_16, by decide +kernel, by decide +kernel, by decide +kernel⟩
set_option maxHeartbeats 4000000 in
set_option maxRecDepth 100000 in
theorem mJ7_fill_53178 (l : Launch) (E : HE) (sz : Nat) {g g' : PH} {a0 : Nat} {a1 : Int32} {r : Unit} (hf : fJ7_fill_53178 g a0 a1 = some (r, g')) : hM l E yJ7_fill_53178 cJ7_fill_53178 4 none 0 0 0 0 sz g [.ref a0, .int a1] none g' := by
  refine hM.of (by decide) (Nat.le_of_ble_eq_true rfl) (fun K hl C hin hsz => ?_)
  subst hl
  subst hsz
  have C : VC K E 4 cJ7_fill_53178 RJ7 none := C
  unfold fJ7_fill_53178 at hf
  refine V.start (L' := [(0, .ref a0), (1, .int a1)]) rfl ?_
  refine V.iconst (pc := 0) C dJ7_fill_53178_0 (v := (0 : Int32)) (by decide) ?_
  refine V.istore_n (pc := 1) (L' := [(2, .int (0 : Int32)), (0, .ref a0), (1, .int a1)]) C dJ7_fill_53178_1 (by decide) rfl ?_
  refine V.aload_n (pc := 2) C dJ7_fill_53178_2 1 rfl ?_
  replace hf := ob_some hf
  obtain ⟨x1, h2, hf⟩ := hf
  refine V.alen (pc := 3) C h2 dJ7_fill_53178_3 ?_
  refine V.istore_n (pc := 4) (L' := [(3, .int x1), (2, .int (0 : Int32)), (0, .ref a0), (1, .int a1)]) C dJ7_fill_53178_4 (by decide) rfl ?_
  refine V.sub (L' := [(0, .ref a0), (1, .int a1), (2, .int (0 : Int32)), (3, .int x1)]) [2, 3, 1, 0] rfl ?_
  exact bJ7_fill_53178_5 C  _ _ _ _ _ _ hf
