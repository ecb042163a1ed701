theorem dX4_firstCode_0 : decode cX4_firstCode 0 = .ok (.iconst 0, 1) := by decide +kernel
theorem dX4_firstCode_1 : decode cX4_firstCode 1 = .ok (.istore_n 1, 1) := by decide +kernel
theorem dX4_firstCode_2 : decode cX4_firstCode 2 = .ok (.iconst 0, 1) := by decide +kernel
theorem dX4_firstCode_3 : decode cX4_firstCode 3 = .ok (.istore_n 2, 1) := by decide +kernel
theorem dX4_firstCode_4 : decode cX4_firstCode 4 = .ok (.iload_n 2, 1) := by decide +kernel
theorem dX4_firstCode_5 : decode cX4_firstCode 5 = .ok (.bipush 8, 2) := by decide +kernel
theorem dX4_firstCode_7 : decode cX4_firstCode 7 = .ok (.if_icmp .ge 23, 3) := by decide +kernel
theorem dX4_firstCode_10 : decode cX4_firstCode 10 = .ok (.iload_n 1, 1) := by decide +kernel
theorem dX4_firstCode_11 : decode cX4_firstCode 11 = .ok (.aload_n 0, 1) := by decide +kernel
theorem dX4_firstCode_12 : decode cX4_firstCode 12 = .ok (.iload_n 2, 1) := by decide +kernel
theorem dX4_firstCode_13 : decode cX4_firstCode 13 = .ok (.iconst 3, 1) := by decide +kernel
theorem dX4_firstCode_14 : decode cX4_firstCode 14 = .ok (.iand, 1) := by decide +kernel
theorem dX4_firstCode_15 : decode cX4_firstCode 15 = .ok (.invokevirtual 95, 3) := by decide +kernel
theorem dX4_firstCode_18 : decode cX4_firstCode 18 = .ok (.iconst 3, 1) := by decide +kernel
theorem dX4_firstCode_19 : decode cX4_firstCode 19 = .ok (.iload_n 2, 1) := by decide +kernel
theorem dX4_firstCode_20 : decode cX4_firstCode 20 = .ok (.imul, 1) := by decide +kernel
theorem dX4_firstCode_21 : decode cX4_firstCode 21 = .ok (.ishl, 1) := by decide +kernel
theorem dX4_firstCode_22 : decode cX4_firstCode 22 = .ok (.ior, 1) := by decide +kernel
theorem dX4_firstCode_23 : decode cX4_firstCode 23 = .ok (.istore_n 1, 1) := by decide +kernel
theorem dX4_firstCode_24 : decode cX4_firstCode 24 = .ok (.iinc 2 1, 3) := by decide +kernel
theorem dX4_firstCode_27 : decode cX4_firstCode 27 = .ok (.goto (-23), 3) := by decide +kernel
theorem dX4_firstCode_30 : decode cX4_firstCode 30 = .ok (.iload_n 1, 1) := by decide +kernel
theorem dX4_firstCode_31 : decode cX4_firstCode 31 = .ok (.ireturn, 1) := by decide +kernel
def fX4_firstCode_4  : Nat → PH → Nat → Int32 → Int32 → Option (Int32 × PH)
  | 0, _, _, _, _ => none
  | n + 1, g, v0, v1, v2 =>
  if (8 : Int32) ≤ v2 then (some (v1, g)) else
  ((fX1_settledFrom g v0 (v2 &&& (3 : Int32))).bind fun q2 =>
  (fX4_firstCode_4 n q2.2 v0 (v1 ||| (q2.1 <<< (((3 : Int32) * v2) &&& 31))) (v2 + (1 : Int32))))
set_option maxHeartbeats 4000000 in
set_option maxRecDepth 100000 in
theorem bX4_firstCode_4 {K : HK} {E : HE} {r : Int32} {g' : PH}  (C : VC K E 3 cX4_firstCode RX4 (some .int))  : ∀ (n : Nat) (g : PH) (v0 : Nat) (v1 : Int32) (v2 : Int32), fX4_firstCode_4  n g v0 v1 v2 = some (r, g') → V K E (hRm 1 21 0 0) 3 (hZ K E (some (.int r)) g' 0 0) 0 0 (kS K) g 4 [(0, .ref v0), (1, .int v1), (2, .int v2)] [] := by
  intro n
  induction n with
  | zero =>
    intro g v0 v1 v2 hf
    rw [fX4_firstCode_4] at hf
    cases hf
  | succ n ih =>
    intro g v0 v1 v2 hf
    rw [fX4_firstCode_4] at hf
    refine V.iload_n (pc := 4) C dX4_firstCode_4 2 rfl ?_
    refine V.bipush (pc := 5) C dX4_firstCode_5 (v := (8 : Int32)) (by decide) ?_
    refine V.icmp_ge (pc := 7) (t := 30) C dX4_firstCode_7 (by decide) (fun c1 => ?_) (fun c1 => ?_)
    · replace hf := ite_t c1 hf
      refine V.iload_n (pc := 30) C dX4_firstCode_30 1 rfl ?_
      obtain ⟨f1, f2⟩ := fin2 hf
      clear hf
      subst f1
      subst f2
      exact V.iret (pc := 31) C rfl dX4_firstCode_31
    replace hf := ite_f c1 hf
    refine V.iload_n (pc := 10) C dX4_firstCode_10 1 rfl ?_
    refine V.aload_n (pc := 11) C dX4_firstCode_11 0 rfl ?_
    refine V.iload_n (pc := 12) C dX4_firstCode_12 2 rfl ?_
    refine V.iconst (pc := 13) C dX4_firstCode_13 (v := (3 : Int32)) (by decide) ?_
    refine V.iand (pc := 14) C dX4_firstCode_14 ?_
    replace hf := ob_some hf
    obtain ⟨q2, h3, hf⟩ := hf
    refine V.callV0i (pc := 15) C hyX1_settledFrom wd_765 (mX1_settledFrom (r := q2.1) (g' := q2.2) K.2.1 E (kS K) h3) rfl rfl rfl (oX1_settledFrom h3) ⟨Nat.le_of_ble_eq_true rfl, Nat.le_of_ble_eq_true rfl⟩ (Nat.le_of_ble_eq_true rfl) dX4_firstCode_15 ⟨Nat.zero_le _, Nat.zero_le _⟩ rfl ?_
    refine V.iconst (pc := 18) C dX4_firstCode_18 (v := (3 : Int32)) (by decide) ?_
    refine V.iload_n (pc := 19) C dX4_firstCode_19 2 rfl ?_
    refine V.imul (pc := 20) C dX4_firstCode_20 ?_
    refine V.ishl (pc := 21) C dX4_firstCode_21 ?_
    refine V.ior (pc := 22) C dX4_firstCode_22 ?_
    refine V.istore_n (pc := 23) (L' := [(1, .int (v1 ||| (q2.1 <<< (((3 : Int32) * v2) &&& 31)))), (0, .ref v0), (2, .int v2)]) C dX4_firstCode_23 (by decide) rfl ?_
    refine V.iinc (pc := 24) (v := (v2 + (1 : Int32))) (L' := [(2, .int (v2 + (1 : Int32))), (1, .int (v1 ||| (q2.1 <<< (((3 : Int32) * v2) &&& 31)))), (0, .ref v0)]) C dX4_firstCode_24 2 rfl rfl (by decide) rfl ?_
    refine V.goto (pc := 27) (t := 4) C dX4_firstCode_27 (by decide) ?_
    refine V.sub (L' := [(0, .ref v0), (1, .int (v1 ||| (q2.1 <<< (((3 : Int32) * v2) &&& 31)))), (2, .int (v2 + (1 : Int32)))]) [2, 1, 0] rfl ?_
    exact ih _ _ _ _ hf
def fX4_firstCode (g : PH) (a0 : Nat) : Option (Int32 × PH) :=
  fX4_firstCode_4 FUEL g a0 (0 : Int32) (0 : Int32)
theorem hyX4_firstCode : hMetS yX4_firstCode cX4_firstCode 3 (some .int) 1 := ⟨wd_764, wd_763, wd_15, by decide +kernel, by decide +kernel, by decide +kernel⟩
set_option maxHeartbeats 4000000 in
set_option maxRecDepth 100000 in
theorem mX4_firstCode (l : Launch) (E : HE) (sz : Nat) {g g' : PH} {a0 : Nat} {r : Int32} (hf : fX4_firstCode g a0 = some (r, g')) : hM l E yX4_firstCode cX4_firstCode 3 (some .int) 1 21 0 0 sz g [.ref a0] (some (.int r)) g' := by
  refine hM.of (by decide) (Nat.le_of_ble_eq_true rfl) (fun K hl C hin hsz => ?_)
  subst hl
  subst hsz
  have C : VC K E 3 cX4_firstCode RX4 (some .int) := C
  unfold fX4_firstCode at hf
  refine V.start (L' := [(0, .ref a0)]) rfl ?_
  refine V.iconst (pc := 0) C dX4_firstCode_0 (v := (0 : Int32)) (by decide) ?_
  refine V.istore_n (pc := 1) (L' := [(1, .int (0 : Int32)), (0, .ref a0)]) C dX4_firstCode_1 (by decide) rfl ?_
  refine V.iconst (pc := 2) C dX4_firstCode_2 (v := (0 : Int32)) (by decide) ?_
  refine V.istore_n (pc := 3) (L' := [(2, .int (0 : Int32)), (1, .int (0 : Int32)), (0, .ref a0)]) C dX4_firstCode_3 (by decide) rfl ?_
  refine V.sub (L' := [(0, .ref a0), (1, .int (0 : Int32)), (2, .int (0 : Int32))]) [2, 1, 0] rfl ?_
  exact bX4_firstCode_4 C  _ _ _ _ _ hf
theorem dX4_isSame_0 : decode cX4_isSame 0 = .ok (.aload_n 0, 1) := by decide +kernel
theorem dX4_isSame_1 : decode cX4_isSame 1 = .ok (.getfield 48, 3) := by decide +kernel
theorem dX4_isSame_4 : decode cX4_isSame 4 = .ok (.iload_n 1, 1) := by decide +kernel
theorem dX4_isSame_5 : decode cX4_isSame 5 = .ok (.iaload, 1) := by decide +kernel
theorem dX4_isSame_6 : decode cX4_isSame 6 = .ok (.aload_n 0, 1) := by decide +kernel
theorem dX4_isSame_7 : decode cX4_isSame 7 = .ok (.getfield 48, 3) := by decide +kernel
theorem dX4_isSame_10 : decode cX4_isSame 10 = .ok (.iload_n 2, 1) := by decide +kernel
theorem dX4_isSame_11 : decode cX4_isSame 11 = .ok (.iaload, 1) := by decide +kernel
theorem dX4_isSame_12 : decode cX4_isSame 12 = .ok (.if_icmp .eq 5, 3) := by decide +kernel
theorem dX4_isSame_15 : decode cX4_isSame 15 = .ok (.iconst 0, 1) := by decide +kernel
theorem dX4_isSame_16 : decode cX4_isSame 16 = .ok (.ireturn, 1) := by decide +kernel
theorem dX4_isSame_17 : decode cX4_isSame 17 = .ok (.iconst 0, 1) := by decide +kernel
theorem dX4_isSame_18 : decode cX4_isSame 18 = .ok (.istore_n 3, 1) := by decide +kernel
theorem dX4_isSame_19 : decode cX4_isSame 19 = .ok (.iload_n 3, 1) := by decide +kernel
theorem dX4_isSame_20 : decode cX4_isSame 20 = .ok (.aload_n 0, 1) := by decide +kernel
theorem dX4_isSame_21 : decode cX4_isSame 21 = .ok (.getfield 39, 3) := by decide +kernel
theorem dX4_isSame_24 : decode cX4_isSame 24 = .ok (.if_icmp .ge 36, 3) := by decide +kernel
theorem dX4_isSame_27 : decode cX4_isSame 27 = .ok (.aload_n 0, 1) := by decide +kernel
theorem dX4_isSame_28 : decode cX4_isSame 28 = .ok (.getfield 45, 3) := by decide +kernel
theorem dX4_isSame_31 : decode cX4_isSame 31 = .ok (.iload_n 1, 1) := by decide +kernel
theorem dX4_isSame_32 : decode cX4_isSame 32 = .ok (.bipush 8, 2) := by decide +kernel
theorem dX4_isSame_34 : decode cX4_isSame 34 = .ok (.imul, 1) := by decide +kernel
theorem dX4_isSame_35 : decode cX4_isSame 35 = .ok (.iload_n 3, 1) := by decide +kernel
theorem dX4_isSame_36 : decode cX4_isSame 36 = .ok (.iadd, 1) := by decide +kernel
theorem dX4_isSame_37 : decode cX4_isSame 37 = .ok (.iaload, 1) := by decide +kernel
theorem dX4_isSame_38 : decode cX4_isSame 38 = .ok (.aload_n 0, 1) := by decide +kernel
theorem dX4_isSame_39 : decode cX4_isSame 39 = .ok (.getfield 45, 3) := by decide +kernel
theorem dX4_isSame_42 : decode cX4_isSame 42 = .ok (.iload_n 2, 1) := by decide +kernel
theorem dX4_isSame_43 : decode cX4_isSame 43 = .ok (.bipush 8, 2) := by decide +kernel
theorem dX4_isSame_45 : decode cX4_isSame 45 = .ok (.imul, 1) := by decide +kernel
theorem dX4_isSame_46 : decode cX4_isSame 46 = .ok (.iload_n 3, 1) := by decide +kernel
theorem dX4_isSame_47 : decode cX4_isSame 47 = .ok (.iadd, 1) := by decide +kernel
theorem dX4_isSame_48 : decode cX4_isSame 48 = .ok (.iaload, 1) := by decide +kernel
theorem dX4_isSame_49 : decode cX4_isSame 49 = .ok (.if_icmp .eq 5, 3) := by decide +kernel
theorem dX4_isSame_52 : decode cX4_isSame 52 = .ok (.iconst 0, 1) := by decide +kernel
theorem dX4_isSame_53 : decode cX4_isSame 53 = .ok (.ireturn, 1) := by decide +kernel
theorem dX4_isSame_54 : decode cX4_isSame 54 = .ok (.iinc 3 1, 3) := by decide +kernel
theorem dX4_isSame_57 : decode cX4_isSame 57 = .ok (.goto (-38), 3) := by decide +kernel
theorem dX4_isSame_60 : decode cX4_isSame 60 = .ok (.iconst 1, 1) := by decide +kernel
theorem dX4_isSame_61 : decode cX4_isSame 61 = .ok (.ireturn, 1) := by decide +kernel
def fX4_isSame_19  : Nat → PH → Nat → Int32 → Int32 → Int32 → Option (Int32 × PH)
  | 0, _, _, _, _, _ => none
  | n + 1, g, v0, v1, v2, v3 =>
  (getI g v0 4 8).bind fun x1 =>
  (if x1 ≤ v3 then (some ((1 : Int32), g)) else
  ((getR g v0 4 10).bind fun p4 =>
  ((ldI g p4 0 ((v1 * (8 : Int32)) + v3)).bind fun x6 =>
  ((getR g v0 4 10).bind fun p8 =>
  ((ldI g p8 0 ((v2 * (8 : Int32)) + v3)).bind fun x10 =>
  (if x6 = x10 then (fX4_isSame_19 n g v0 v1 v2 (v3 + (1 : Int32))) else
  (some ((0 : Int32), g))))))))
set_option maxHeartbeats 4000000 in
set_option maxRecDepth 100000 in
theorem bX4_isSame_19 {K : HK} {E : HE} {r : Int32} {g' : PH}  (C : VC K E 4 cX4_isSame RX4 (some .boolean))  : ∀ (n : Nat) (g : PH) (v0 : Nat) (v1 : Int32) (v2 : Int32) (v3 : Int32), fX4_isSame_19  n g v0 v1 v2 v3 = some (r, g') → V K E (hRm 0 0 0 0) 4 (hZ K E (some (.int r)) g' 0 0) 0 0 (kS K) g 19 [(0, .ref v0), (1, .int v1), (2, .int v2), (3, .int v3)] [] := by
  intro n
  induction n with
  | zero =>
    intro g v0 v1 v2 v3 hf
    rw [fX4_isSame_19] at hf
    cases hf
  | succ n ih =>
    intro g v0 v1 v2 v3 hf
    rw [fX4_isSame_19] at hf
    refine V.iload_n (pc := 19) C dX4_isSame_19 3 rfl ?_
    refine V.aload_n (pc := 20) C dX4_isSame_20 0 rfl ?_
    replace hf := ob_some hf
    obtain ⟨x1, h2, hf⟩ := hf
    refine V.getI (pc := 21) C kX4 (k := 8) (by decide) wd_701 h2 dX4_isSame_21 ?_
    refine V.icmp_ge (pc := 24) (t := 60) C dX4_isSame_24 (by decide) (fun c3 => ?_) (fun c3 => ?_)
    · replace hf := ite_t c3 hf
      refine V.iconst (pc := 60) C dX4_isSame_60 (v := (1 : Int32)) (by decide) ?_
      obtain ⟨f1, f2⟩ := fin2 hf
      clear hf
      subst f1
      subst f2
      exact V.zret (pc := 61) C rfl rfl dX4_isSame_61
    replace hf := ite_f c3 hf
    refine V.aload_n (pc := 27) C dX4_isSame_27 0 rfl ?_
    replace hf := ob_some hf
    obtain ⟨p4, h5, hf⟩ := hf
    refine V.getR (pc := 28) C kX4 (k := 10) (by decide) wd_703 h5 dX4_isSame_28 ?_
    refine V.iload_n (pc := 31) C dX4_isSame_31 1 rfl ?_
    refine V.bipush (pc := 32) C dX4_isSame_32 (v := (8 : Int32)) (by decide) ?_
    refine V.imul (pc := 34) C dX4_isSame_34 ?_
    refine V.iload_n (pc := 35) C dX4_isSame_35 3 rfl ?_
    refine V.iadd (pc := 36) C dX4_isSame_36 ?_
    replace hf := ob_some hf
    obtain ⟨x6, h7, hf⟩ := hf
    refine V.iald (pc := 37) C h7 dX4_isSame_37 ?_
    refine V.aload_n (pc := 38) C dX4_isSame_38 0 rfl ?_
    replace hf := ob_some hf
    obtain ⟨p8, h9, hf⟩ := hf
    refine V.getR (pc := 39) C kX4 (k := 10) (by decide) wd_703 h9 dX4_isSame_39 ?_
    refine V.iload_n (pc := 42) C dX4_isSame_42 2 rfl ?_
    refine V.bipush (pc := 43) C dX4_isSame_43 (v := (8 : Int32)) (by decide) ?_
    refine V.imul (pc := 45) C dX4_isSame_45 ?_
    refine V.iload_n (pc := 46) C dX4_isSame_46 3 rfl ?_
    refine V.iadd (pc := 47) C dX4_isSame_47 ?_
    replace hf := ob_some hf
    obtain ⟨x10, h11, hf⟩ := hf
    refine V.iald (pc := 48) C h11 dX4_isSame_48 ?_
    refine V.icmp_eq (pc := 49) (t := 54) C dX4_isSame_49 (by decide) (fun c12 => ?_) (fun c12 => ?_)
    · replace hf := ite_t c12 hf
      refine V.iinc (pc := 54) (v := (v3 + (1 : Int32))) (L' := [(3, .int (v3 + (1 : Int32))), (0, .ref v0), (1, .int v1), (2, .int v2)]) C dX4_isSame_54 3 rfl rfl (by decide) rfl ?_
      refine V.goto (pc := 57) (t := 19) C dX4_isSame_57 (by decide) ?_
      refine V.sub (L' := [(0, .ref v0), (1, .int v1), (2, .int v2), (3, .int (v3 + (1 : Int32)))]) [1, 2, 3, 0] rfl ?_
      exact ih _ _ _ _ _ hf
    replace hf := ite_f c12 hf
    refine V.iconst (pc := 52) C dX4_isSame_52 (v := (0 : Int32)) (by decide) ?_
    obtain ⟨f1, f2⟩ := fin2 hf
    clear hf
    subst f1
    subst f2
    exact V.zret (pc := 53) C rfl rfl dX4_isSame_53
def fX4_isSame (g : PH) (a0 : Nat) (a1 : Int32) (a2 : Int32) : Option (Int32 × PH) :=
  okb (isO g a0 4) ((getR g a0 4 11).bind fun p1 =>
  ((ldI g p1 0 a1).bind fun x3 =>
  ((getR g a0 4 11).bind fun p5 =>
  ((ldI g p5 0 a2).bind fun x7 =>
  (if x3 = x7 then (fX4_isSame_19 FUEL g a0 a1 a2 (0 : Int32)) else
  (some ((0 : Int32), g)))))))
theorem oX4_isSame {g : PH} {a0 : Nat} {a1 : Int32} {a2 : Int32} {q : (Int32 × PH)} (h : fX4_isSame g a0 a1 a2 = some q) : isO g a0 4 = true := by unfold fX4_isSame at h; exact (okb_some h).1
theorem hyX4_isSame : hMet yX4_isSame RX4 cX4_isSame 4 (some .boolean) 2 := ⟨wd_777, wd_776, ws_33, wd_15, rfl, by decide +kernel, by decide +kernel, by decide +kernel⟩
set_option maxHeartbeats 4000000 in
set_option maxRecDepth 100000 in
theorem mX4_isSame (l : Launch) (E : HE) (sz : Nat) {g g' : PH} {a0 : Nat} {a1 : Int32} {a2 : Int32} {r : Int32} (hf : fX4_isSame g a0 a1 a2 = some (r, g')) : hM l E yX4_isSame cX4_isSame 4 (some .boolean) 0 0 0 0 sz g [.ref a0, .int a1, .int a2] (some (.int r)) g' := by
  refine hM.of (by decide) (Nat.le_of_ble_eq_true rfl) (fun K hl C hin hsz => ?_)
  subst hl
  subst hsz
  have C : VC K E 4 cX4_isSame RX4 (some .boolean) := C
  unfold fX4_isSame at hf
  replace hf := okb_some hf
  obtain ⟨ho, hf⟩ := hf
  refine V.start (L' := [(0, .ref a0), (1, .int a1), (2, .int a2)]) rfl ?_
  refine V.aload_n (pc := 0) C dX4_isSame_0 0 rfl ?_
  replace hf := ob_some hf
  obtain ⟨p1, h2, hf⟩ := hf
  refine V.getR (pc := 1) C kX4 (k := 11) (by decide) wd_704 h2 dX4_isSame_1 ?_
  refine V.iload_n (pc := 4) C dX4_isSame_4 1 rfl ?_
  replace hf := ob_some hf
  obtain ⟨x3, h4, hf⟩ := hf
  refine V.iald (pc := 5) C h4 dX4_isSame_5 ?_
  refine V.aload_n (pc := 6) C dX4_isSame_6 0 rfl ?_
  replace hf := ob_some hf
  obtain ⟨p5, h6, hf⟩ := hf
  refine V.getR (pc := 7) C kX4 (k := 11) (by decide) wd_704 h6 dX4_isSame_7 ?_
  refine V.iload_n (pc := 10) C dX4_isSame_10 2 rfl ?_
  replace hf := ob_some hf
  obtain ⟨x7, h8, hf⟩ := hf
  refine V.iald (pc := 11) C h8 dX4_isSame_11 ?_
  refine V.icmp_eq (pc := 12) (t := 17) C dX4_isSame_12 (by decide) (fun c9 => ?_) (fun c9 => ?_)
  · replace hf := ite_t c9 hf
    refine V.iconst (pc := 17) C dX4_isSame_17 (v := (0 : Int32)) (by decide) ?_
    refine V.istore_n (pc := 18) (L' := [(3, .int (0 : Int32)), (0, .ref a0), (1, .int a1), (2, .int a2)]) C dX4_isSame_18 (by decide) rfl ?_
    refine V.sub (L' := [(0, .ref a0), (1, .int a1), (2, .int a2), (3, .int (0 : Int32))]) [1, 2, 3, 0] rfl ?_
    exact bX4_isSame_19 C  _ _ _ _ _ _ hf
  replace hf := ite_f c9 hf
  refine V.iconst (pc := 15) C dX4_isSame_15 (v := (0 : Int32)) (by decide) ?_
  obtain ⟨f1, f2⟩ := fin2 hf
  clear hf
  subst f1
  subst f2
  exact V.zret (pc := 16) C rfl rfl dX4_isSame_16
theorem dX4_slotOf_0 : decode cX4_slotOf 0 = .ok (.aload_n 0, 1) := by decide +kernel
theorem dX4_slotOf_1 : decode cX4_slotOf 1 = .ok (.getfield 48, 3) := by decide +kernel
theorem dX4_slotOf_4 : decode cX4_slotOf 4 = .ok (.iload_n 1, 1) := by decide +kernel
theorem dX4_slotOf_5 : decode cX4_slotOf 5 = .ok (.iaload, 1) := by decide +kernel
theorem dX4_slotOf_6 : decode cX4_slotOf 6 = .ok (.istore_n 2, 1) := by decide +kernel
theorem dX4_slotOf_7 : decode cX4_slotOf 7 = .ok (.iconst 0, 1) := by decide +kernel
theorem dX4_slotOf_8 : decode cX4_slotOf 8 = .ok (.istore_n 3, 1) := by decide +kernel
theorem dX4_slotOf_9 : decode cX4_slotOf 9 = .ok (.iload_n 3, 1) := by decide +kernel
theorem dX4_slotOf_10 : decode cX4_slotOf 10 = .ok (.aload_n 0, 1) := by decide +kernel
theorem dX4_slotOf_11 : decode cX4_slotOf 11 = .ok (.getfield 39, 3) := by decide +kernel
theorem dX4_slotOf_14 : decode cX4_slotOf 14 = .ok (.if_icmp .ge 33, 3) := by decide +kernel
theorem dX4_slotOf_17 : decode cX4_slotOf 17 = .ok (.iload_n 2, 1) := by decide +kernel
theorem dX4_slotOf_18 : decode cX4_slotOf 18 = .ok (.aload_n 0, 1) := by decide +kernel
theorem dX4_slotOf_19 : decode cX4_slotOf 19 = .ok (.getfield 45, 3) := by decide +kernel
theorem dX4_slotOf_22 : decode cX4_slotOf 22 = .ok (.iload_n 1, 1) := by decide +kernel
theorem dX4_slotOf_23 : decode cX4_slotOf 23 = .ok (.bipush 8, 2) := by decide +kernel
theorem dX4_slotOf_25 : decode cX4_slotOf 25 = .ok (.imul, 1) := by decide +kernel
theorem dX4_slotOf_26 : decode cX4_slotOf 26 = .ok (.iload_n 3, 1) := by decide +kernel
theorem dX4_slotOf_27 : decode cX4_slotOf 27 = .ok (.iadd, 1) := by decide +kernel
theorem dX4_slotOf_28 : decode cX4_slotOf 28 = .ok (.iaload, 1) := by decide +kernel
theorem dX4_slotOf_29 : decode cX4_slotOf 29 = .ok (.ixor, 1) := by decide +kernel
theorem dX4_slotOf_30 : decode cX4_slotOf 30 = .ok (.ldc 127, 2) := by decide +kernel
theorem dX4_slotOf_32 : decode cX4_slotOf 32 = .ok (.imul, 1) := by decide +kernel
theorem dX4_slotOf_33 : decode cX4_slotOf 33 = .ok (.istore_n 2, 1) := by decide +kernel
theorem dX4_slotOf_34 : decode cX4_slotOf 34 = .ok (.iload_n 2, 1) := by decide +kernel
theorem dX4_slotOf_35 : decode cX4_slotOf 35 = .ok (.iload_n 2, 1) := by decide +kernel
theorem dX4_slotOf_36 : decode cX4_slotOf 36 = .ok (.bipush 15, 2) := by decide +kernel
theorem dX4_slotOf_38 : decode cX4_slotOf 38 = .ok (.iushr, 1) := by decide +kernel
theorem dX4_slotOf_39 : decode cX4_slotOf 39 = .ok (.ixor, 1) := by decide +kernel
theorem dX4_slotOf_40 : decode cX4_slotOf 40 = .ok (.istore_n 2, 1) := by decide +kernel
theorem dX4_slotOf_41 : decode cX4_slotOf 41 = .ok (.iinc 3 1, 3) := by decide +kernel
theorem dX4_slotOf_44 : decode cX4_slotOf 44 = .ok (.goto (-35), 3) := by decide +kernel
theorem dX4_slotOf_47 : decode cX4_slotOf 47 = .ok (.iload_n 2, 1) := by decide +kernel
theorem dX4_slotOf_48 : decode cX4_slotOf 48 = .ok (.sipush 4095, 3) := by decide +kernel
theorem dX4_slotOf_51 : decode cX4_slotOf 51 = .ok (.iand, 1) := by decide +kernel
theorem dX4_slotOf_52 : decode cX4_slotOf 52 = .ok (.istore_n 3, 1) := by decide +kernel
theorem dX4_slotOf_53 : decode cX4_slotOf 53 = .ok (.iconst 0, 1) := by decide +kernel
theorem dX4_slotOf_54 : decode cX4_slotOf 54 = .ok (.istore 4, 2) := by decide +kernel
theorem dX4_slotOf_56 : decode cX4_slotOf 56 = .ok (.iload 4, 2) := by decide +kernel
theorem dX4_slotOf_58 : decode cX4_slotOf 58 = .ok (.sipush 4096, 3) := by decide +kernel
theorem dX4_slotOf_61 : decode cX4_slotOf 61 = .ok (.if_icmp .ge 44, 3) := by decide +kernel
theorem dX4_slotOf_64 : decode cX4_slotOf 64 = .ok (.aload_n 0, 1) := by decide +kernel
theorem dX4_slotOf_65 : decode cX4_slotOf 65 = .ok (.getfield 57, 3) := by decide +kernel
theorem dX4_slotOf_68 : decode cX4_slotOf 68 = .ok (.iload_n 3, 1) := by decide +kernel
theorem dX4_slotOf_69 : decode cX4_slotOf 69 = .ok (.iaload, 1) := by decide +kernel
theorem dX4_slotOf_70 : decode cX4_slotOf 70 = .ok (.ifCond .eq 19, 3) := by decide +kernel
theorem dX4_slotOf_73 : decode cX4_slotOf 73 = .ok (.aload_n 0, 1) := by decide +kernel
theorem dX4_slotOf_74 : decode cX4_slotOf 74 = .ok (.aload_n 0, 1) := by decide +kernel
theorem dX4_slotOf_75 : decode cX4_slotOf 75 = .ok (.getfield 57, 3) := by decide +kernel
theorem dX4_slotOf_78 : decode cX4_slotOf 78 = .ok (.iload_n 3, 1) := by decide +kernel
theorem dX4_slotOf_79 : decode cX4_slotOf 79 = .ok (.iaload, 1) := by decide +kernel
theorem dX4_slotOf_80 : decode cX4_slotOf 80 = .ok (.iconst 1, 1) := by decide +kernel
theorem dX4_slotOf_81 : decode cX4_slotOf 81 = .ok (.isub, 1) := by decide +kernel
theorem dX4_slotOf_82 : decode cX4_slotOf 82 = .ok (.iload_n 1, 1) := by decide +kernel
theorem dX4_slotOf_83 : decode cX4_slotOf 83 = .ok (.invokevirtual 128, 3) := by decide +kernel
theorem dX4_slotOf_86 : decode cX4_slotOf 86 = .ok (.ifCond .eq 5, 3) := by decide +kernel
theorem dX4_slotOf_89 : decode cX4_slotOf 89 = .ok (.iload_n 3, 1) := by decide +kernel
theorem dX4_slotOf_90 : decode cX4_slotOf 90 = .ok (.ireturn, 1) := by decide +kernel
theorem dX4_slotOf_91 : decode cX4_slotOf 91 = .ok (.iload_n 3, 1) := by decide +kernel
theorem dX4_slotOf_92 : decode cX4_slotOf 92 = .ok (.iconst 1, 1) := by decide +kernel
theorem dX4_slotOf_93 : decode cX4_slotOf 93 = .ok (.iadd, 1) := by decide +kernel
theorem dX4_slotOf_94 : decode cX4_slotOf 94 = .ok (.sipush 4095, 3) := by decide +kernel
theorem dX4_slotOf_97 : decode cX4_slotOf 97 = .ok (.iand, 1) := by decide +kernel
theorem dX4_slotOf_98 : decode cX4_slotOf 98 = .ok (.istore_n 3, 1) := by decide +kernel
theorem dX4_slotOf_99 : decode cX4_slotOf 99 = .ok (.iinc 4 1, 3) := by decide +kernel
theorem dX4_slotOf_102 : decode cX4_slotOf 102 = .ok (.goto (-46), 3) := by decide +kernel
theorem dX4_slotOf_105 : decode cX4_slotOf 105 = .ok (.iload_n 3, 1) := by decide +kernel
theorem dX4_slotOf_106 : decode cX4_slotOf 106 = .ok (.ireturn, 1) := by decide +kernel
def fX4_slotOf_56  : Nat → PH → Nat → Int32 → Int32 → Int32 → Option (Int32 × PH)
  | 0, _, _, _, _, _ => none
  | n + 1, g, v0, v1, v3, v4 =>
  if (4096 : Int32) ≤ v4 then (some (v3, g)) else
  ((getR g v0 4 14).bind fun p2 =>
  ((ldI g p2 0 v3).bind fun x4 =>
  (if x4 = 0 then (some (v3, g)) else
  ((getR g v0 4 14).bind fun p7 =>
  ((ldI g p7 0 v3).bind fun x9 =>
  ((fX4_isSame g v0 (x9 - (1 : Int32)) v1).bind fun q11 =>
  (if q11.1 = 0 then (fX4_slotOf_56 n q11.2 v0 v1 ((v3 + (1 : Int32)) &&& (4095 : Int32)) (v4 + (1 : Int32))) else
  (some (v3, q11.2)))))))))
set_option maxHeartbeats 4000000 in
set_option maxRecDepth 100000 in
theorem bX4_slotOf_56 {K : HK} {E : HE} {r : Int32} {g' : PH}  (C : VC K E 5 cX4_slotOf RX4 (some .int))  : ∀ (n : Nat) (g : PH) (v0 : Nat) (v1 : Int32) (v3 : Int32) (v4 : Int32), fX4_slotOf_56  n g v0 v1 v3 v4 = some (r, g') → V K E (hRm 1 23 0 0) 5 (hZ K E (some (.int r)) g' 0 0) 0 0 (kS K) g 56 [(0, .ref v0), (1, .int v1), (3, .int v3), (4, .int v4)] [] := by
  intro n
  induction n with
  | zero =>
    intro g v0 v1 v3 v4 hf
    rw [fX4_slotOf_56] at hf
    cases hf
  | succ n ih =>
    intro g v0 v1 v3 v4 hf
    rw [fX4_slotOf_56] at hf
    refine V.iload (pc := 56) C dX4_slotOf_56 3 rfl ?_
    refine V.sipush (pc := 58) C dX4_slotOf_58 (v := (4096 : Int32)) (by decide) ?_
    refine V.icmp_ge (pc := 61) (t := 105) C dX4_slotOf_61 (by decide) (fun c1 => ?_) (fun c1 => ?_)
    · replace hf := ite_t c1 hf
      refine V.iload_n (pc := 105) C dX4_slotOf_105 2 rfl ?_
      obtain ⟨f1, f2⟩ := fin2 hf
      clear hf
      subst f1
      subst f2
      exact V.iret (pc := 106) C rfl dX4_slotOf_106
    replace hf := ite_f c1 hf
    refine V.aload_n (pc := 64) C dX4_slotOf_64 0 rfl ?_
    replace hf := ob_some hf
    obtain ⟨p2, h3, hf⟩ := hf
    refine V.getR (pc := 65) C kX4 (k := 14) (by decide) wd_707 h3 dX4_slotOf_65 ?_
    refine V.iload_n (pc := 68) C dX4_slotOf_68 2 rfl ?_
    replace hf := ob_some hf
    obtain ⟨x4, h5, hf⟩ := hf
    refine V.iald (pc := 69) C h5 dX4_slotOf_69 ?_
    refine V.if_eq (pc := 70) (t := 89) C dX4_slotOf_70 (by decide) (fun c6 => ?_) (fun c6 => ?_)
    · replace hf := ite_t c6 hf
      refine V.iload_n (pc := 89) C dX4_slotOf_89 2 rfl ?_
      obtain ⟨f1, f2⟩ := fin2 hf
      clear hf
      subst f1
      subst f2
      exact V.iret (pc := 90) C rfl dX4_slotOf_90
    replace hf := ite_f c6 hf
    refine V.aload_n (pc := 73) C dX4_slotOf_73 0 rfl ?_
    refine V.aload_n (pc := 74) C dX4_slotOf_74 0 rfl ?_
    replace hf := ob_some hf
    obtain ⟨p7, h8, hf⟩ := hf
    refine V.getR (pc := 75) C kX4 (k := 14) (by decide) wd_707 h8 dX4_slotOf_75 ?_
    refine V.iload_n (pc := 78) C dX4_slotOf_78 2 rfl ?_
    replace hf := ob_some hf
    obtain ⟨x9, h10, hf⟩ := hf
    refine V.iald (pc := 79) C h10 dX4_slotOf_79 ?_
    refine V.iconst (pc := 80) C dX4_slotOf_80 (v := (1 : Int32)) (by decide) ?_
    refine V.isub (pc := 81) C dX4_slotOf_81 ?_
    refine V.iload_n (pc := 82) C dX4_slotOf_82 1 rfl ?_
    replace hf := ob_some hf
    obtain ⟨q11, h12, hf⟩ := hf
    refine V.callV0i (pc := 83) C hyX4_isSame wd_774 (mX4_isSame (r := q11.1) (g' := q11.2) K.2.1 E (kS K) h12) rfl rfl rfl (oX4_isSame h12) ⟨Nat.le_of_ble_eq_true rfl, Nat.le_of_ble_eq_true rfl⟩ (Nat.le_of_ble_eq_true rfl) dX4_slotOf_83 ⟨Nat.zero_le _, Nat.zero_le _⟩ rfl ?_
    refine V.if_eq (pc := 86) (t := 91) C dX4_slotOf_86 (by decide) (fun c13 => ?_) (fun c13 => ?_)
    · replace hf := ite_t c13 hf
      refine V.iload_n (pc := 91) C dX4_slotOf_91 2 rfl ?_
      refine V.iconst (pc := 92) C dX4_slotOf_92 (v := (1 : Int32)) (by decide) ?_
      refine V.iadd (pc := 93) C dX4_slotOf_93 ?_
      refine V.sipush (pc := 94) C dX4_slotOf_94 (v := (4095 : Int32)) (by decide) ?_
      refine V.iand (pc := 97) C dX4_slotOf_97 ?_
      refine V.istore_n (pc := 98) (L' := [(3, .int ((v3 + (1 : Int32)) &&& (4095 : Int32))), (0, .ref v0), (1, .int v1), (4, .int v4)]) C dX4_slotOf_98 (by decide) rfl ?_
      refine V.iinc (pc := 99) (v := (v4 + (1 : Int32))) (L' := [(4, .int (v4 + (1 : Int32))), (3, .int ((v3 + (1 : Int32)) &&& (4095 : Int32))), (0, .ref v0), (1, .int v1)]) C dX4_slotOf_99 3 rfl rfl (by decide) rfl ?_
      refine V.goto (pc := 102) (t := 56) C dX4_slotOf_102 (by decide) ?_
      refine V.sub (L' := [(0, .ref v0), (1, .int v1), (3, .int ((v3 + (1 : Int32)) &&& (4095 : Int32))), (4, .int (v4 + (1 : Int32)))]) [2, 3, 1, 0] rfl ?_
      exact ih _ _ _ _ _ hf
    replace hf := ite_f c13 hf
    refine V.iload_n (pc := 89) C dX4_slotOf_89 2 rfl ?_
    obtain ⟨f1, f2⟩ := fin2 hf
    clear hf
    subst f1
    subst f2
    exact V.iret (pc := 90) C rfl dX4_slotOf_90
def fX4_slotOf_9  : Nat → PH → Nat → Int32 → Int32 → Int32 → Option (Int32 × PH)
  | 0, _, _, _, _, _ => none
  | n + 1, g, v0, v1, v2, v3 =>
  (getI g v0 4 8).bind fun x1 =>
  (if x1 ≤ v3 then (fX4_slotOf_56 FUEL g v0 v1 (v2 &&& (4095 : Int32)) (0 : Int32)) else
  ((getR g v0 4 10).bind fun p4 =>
  ((ldI g p4 0 ((v1 * (8 : Int32)) + v3)).bind fun x6 =>
  (fX4_slotOf_9 n g v0 v1 (((v2 ^^^ x6) * (16777619 : Int32)) ^^^ (((v2 ^^^ x6) * (16777619 : Int32)).toUInt32 >>> ((15 : Int32).toUInt32 &&& Int32.toUInt32 31)).toInt32) (v3 + (1 : Int32))))))
set_option maxHeartbeats 4000000 in
set_option maxRecDepth 100000 in
theorem bX4_slotOf_9 {K : HK} {E : HE} {r : Int32} {g' : PH}  (C : VC K E 5 cX4_slotOf RX4 (some .int))  : ∀ (n : Nat) (g : PH) (v0 : Nat) (v1 : Int32) (v2 : Int32) (v3 : Int32), fX4_slotOf_9  n g v0 v1 v2 v3 = some (r, g') → V K E (hRm 1 23 0 0) 5 (hZ K E (some (.int r)) g' 0 0) 0 0 (kS K) g 9 [(0, .ref v0), (1, .int v1), (2, .int v2), (3, .int v3)] [] := by
  intro n
  induction n with
  | zero =>
    intro g v0 v1 v2 v3 hf
    rw [fX4_slotOf_9] at hf
    cases hf
  | succ n ih =>
    intro g v0 v1 v2 v3 hf
    rw [fX4_slotOf_9] at hf
    refine V.iload_n (pc := 9) C dX4_slotOf_9 3 rfl ?_
    refine V.aload_n (pc := 10) C dX4_slotOf_10 0 rfl ?_
    replace hf := ob_some hf
    obtain ⟨x1, h2, hf⟩ := hf
    refine V.getI (pc := 11) C kX4 (k := 8) (by decide) wd_701 h2 dX4_slotOf_11 ?_
    refine V.icmp_ge (pc := 14) (t := 47) C dX4_slotOf_14 (by decide) (fun c3 => ?_) (fun c3 => ?_)
    · replace hf := ite_t c3 hf
      refine V.iload_n (pc := 47) C dX4_slotOf_47 2 rfl ?_
      refine V.sipush (pc := 48) C dX4_slotOf_48 (v := (4095 : Int32)) (by decide) ?_
      refine V.iand (pc := 51) C dX4_slotOf_51 ?_
      refine V.istore_n (pc := 52) (L' := [(3, .int (v2 &&& (4095 : Int32))), (0, .ref v0), (1, .int v1), (2, .int v2)]) C dX4_slotOf_52 (by decide) rfl ?_
      refine V.iconst (pc := 53) C dX4_slotOf_53 (v := (0 : Int32)) (by decide) ?_
      refine V.istore (pc := 54) (L' := [(4, .int (0 : Int32)), (3, .int (v2 &&& (4095 : Int32))), (0, .ref v0), (1, .int v1), (2, .int v2)]) C dX4_slotOf_54 (by decide) rfl ?_
      refine V.sub (L' := [(0, .ref v0), (1, .int v1), (3, .int (v2 &&& (4095 : Int32))), (4, .int (0 : Int32))]) [2, 3, 1, 0] rfl ?_
      exact bX4_slotOf_56 C  _ _ _ _ _ _ hf
    replace hf := ite_f c3 hf
    refine V.iload_n (pc := 17) C dX4_slotOf_17 2 rfl ?_
    refine V.aload_n (pc := 18) C dX4_slotOf_18 0 rfl ?_
    replace hf := ob_some hf
    obtain ⟨p4, h5, hf⟩ := hf
    refine V.getR (pc := 19) C kX4 (k := 10) (by decide) wd_703 h5 dX4_slotOf_19 ?_
    refine V.iload_n (pc := 22) C dX4_slotOf_22 1 rfl ?_
    refine V.bipush (pc := 23) C dX4_slotOf_23 (v := (8 : Int32)) (by decide) ?_
    refine V.imul (pc := 25) C dX4_slotOf_25 ?_
    refine V.iload_n (pc := 26) C dX4_slotOf_26 3 rfl ?_
    refine V.iadd (pc := 27) C dX4_slotOf_27 ?_
    replace hf := ob_some hf
    obtain ⟨x6, h7, hf⟩ := hf
    refine V.iald (pc := 28) C h7 dX4_slotOf_28 ?_
    refine V.ixor (pc := 29) C dX4_slotOf_29 ?_
    refine V.ldc (pc := 30) C wd_773 dX4_slotOf_30 ?_
    refine V.imul (pc := 32) C dX4_slotOf_32 ?_
    refine V.istore_n (pc := 33) (L' := [(2, .int ((v2 ^^^ x6) * (16777619 : Int32))), (0, .ref v0), (1, .int v1), (3, .int v3)]) C dX4_slotOf_33 (by decide) rfl ?_
    refine V.iload_n (pc := 34) C dX4_slotOf_34 0 rfl ?_
    refine V.iload_n (pc := 35) C dX4_slotOf_35 0 rfl ?_
    refine V.bipush (pc := 36) C dX4_slotOf_36 (v := (15 : Int32)) (by decide) ?_
    refine V.iushr (pc := 38) C dX4_slotOf_38 ?_
    refine V.ixor (pc := 39) C dX4_slotOf_39 ?_
    refine V.istore_n (pc := 40) (L' := [(2, .int (((v2 ^^^ x6) * (16777619 : Int32)) ^^^ (((v2 ^^^ x6) * (16777619 : Int32)).toUInt32 >>> ((15 : Int32).toUInt32 &&& Int32.toUInt32 31)).toInt32)), (0, .ref v0), (1, .int v1), (3, .int v3)]) C dX4_slotOf_40 (by decide) rfl ?_
    refine V.iinc (pc := 41) (v := (v3 + (1 : Int32))) (L' := [(3, .int (v3 + (1 : Int32))), (2, .int (((v2 ^^^ x6) * (16777619 : Int32)) ^^^ (((v2 ^^^ x6) * (16777619 : Int32)).toUInt32 >>> ((15 : Int32).toUInt32 &&& Int32.toUInt32 31)).toInt32)), (0, .ref v0), (1, .int v1)]) C dX4_slotOf_41 3 rfl rfl (by decide) rfl ?_
    refine V.goto (pc := 44) (t := 9) C dX4_slotOf_44 (by decide) ?_
    refine V.sub (L' := [(0, .ref v0), (1, .int v1), (2, .int (((v2 ^^^ x6) * (16777619 : Int32)) ^^^ (((v2 ^^^ x6) * (16777619 : Int32)).toUInt32 >>> ((15 : Int32).toUInt32 &&& Int32.toUInt32 31)).toInt32)), (3, .int (v3 + (1 : Int32)))]) [2, 3, 1, 0] rfl ?_
    exact ih _ _ _ _ _ hf
def fX4_slotOf (g : PH) (a0 : Nat) (a1 : Int32) : Option (Int32 × PH) :=
  okb (isO g a0 4) ((getR g a0 4 11).bind fun p1 =>
  ((ldI g p1 0 a1).bind fun x3 =>
  (fX4_slotOf_9 FUEL g a0 a1 x3 (0 : Int32))))
theorem oX4_slotOf {g : PH} {a0 : Nat} {a1 : Int32} {q : (Int32 × PH)} (h : fX4_slotOf g a0 a1 = some q) : isO g a0 4 = true := by unfold fX4_slotOf at h; exact (okb_some h).1
theorem hyX4_slotOf : hMet yX4_slotOf RX4 cX4_slotOf 5 (some .int) 1 := ⟨wd_772, wd_771, ws_32, wd_15, rfl, by decide +kernel, by decide +kernel, by decide +kernel⟩
set_option maxHeartbeats 4000000 in
set_option maxRecDepth 100000 in
theorem mX4_slotOf (l : Launch) (E : HE) (sz : Nat) {g g' : PH} {a0 : Nat} {a1 : Int32} {r : Int32} (hf : fX4_slotOf g a0 a1 = some (r, g')) : hM l E yX4_slotOf cX4_slotOf 5 (some .int) 1 23 0 0 sz g [.ref a0, .int a1] (some (.int r)) g' := by
  refine hM.of (by decide) (Nat.le_of_ble_eq_true rfl) (fun K hl C hin hsz => ?_)
  subst hl
  subst hsz
  have C : VC K E 5 cX4_slotOf RX4 (some .int) := C
  unfold fX4_slotOf at hf
  replace hf := okb_some hf
  obtain ⟨ho, hf⟩ := hf
  refine V.start (L' := [(0, .ref a0), (1, .int a1)]) rfl ?_
  refine V.aload_n (pc := 0) C dX4_slotOf_0 0 rfl ?_
  replace hf := ob_some hf
  obtain ⟨p1, h2, hf⟩ := hf
  refine V.getR (pc := 1) C kX4 (k := 11) (by decide) wd_704 h2 dX4_slotOf_1 ?_
  refine V.iload_n (pc := 4) C dX4_slotOf_4 1 rfl ?_
  replace hf := ob_some hf
  obtain ⟨x3, h4, hf⟩ := hf
  refine V.iald (pc := 5) C h4 dX4_slotOf_5 ?_
  refine V.istore_n (pc := 6) (L' := [(2, .int x3), (0, .ref a0), (1, .int a1)]) C dX4_slotOf_6 (by decide) rfl ?_
  refine V.iconst (pc := 7) C dX4_slotOf_7 (v := (0 : Int32)) (by decide) ?_
  refine V.istore_n (pc := 8) (L' := [(3, .int (0 : Int32)), (2, .int x3), (0, .ref a0), (1, .int a1)]) C dX4_slotOf_8 (by decide) rfl ?_
  refine V.sub (L' := [(0, .ref a0), (1, .int a1), (2, .int x3), (3, .int (0 : Int32))]) [2, 3, 1, 0] rfl ?_
  exact bX4_slotOf_9 C  _ _ _ _ _ _ hf
theorem dX4_moved_0 : decode cX4_moved 0 = .ok (.iconst 0, 1) := by decide +kernel
theorem dX4_moved_1 : decode cX4_moved 1 = .ok (.istore_n 2, 1) := by decide +kernel
theorem dX4_moved_2 : decode cX4_moved 2 = .ok (.iconst 0, 1) := by decide +kernel
theorem dX4_moved_3 : decode cX4_moved 3 = .ok (.istore_n 3, 1) := by decide +kernel
theorem dX4_moved_4 : decode cX4_moved 4 = .ok (.iload_n 3, 1) := by decide +kernel
theorem dX4_moved_5 : decode cX4_moved 5 = .ok (.bipush 8, 2) := by decide +kernel
theorem dX4_moved_7 : decode cX4_moved 7 = .ok (.if_icmp .ge 51, 3) := by decide +kernel
theorem dX4_moved_10 : decode cX4_moved 10 = .ok (.iload_n 0, 1) := by decide +kernel
theorem dX4_moved_11 : decode cX4_moved 11 = .ok (.iconst 3, 1) := by decide +kernel
theorem dX4_moved_12 : decode cX4_moved 12 = .ok (.iload_n 3, 1) := by decide +kernel
theorem dX4_moved_13 : decode cX4_moved 13 = .ok (.imul, 1) := by decide +kernel
theorem dX4_moved_14 : decode cX4_moved 14 = .ok (.ishr, 1) := by decide +kernel
theorem dX4_moved_15 : decode cX4_moved 15 = .ok (.bipush 7, 2) := by decide +kernel
theorem dX4_moved_17 : decode cX4_moved 17 = .ok (.iand, 1) := by decide +kernel
theorem dX4_moved_18 : decode cX4_moved 18 = .ok (.istore 4, 2) := by decide +kernel
theorem dX4_moved_20 : decode cX4_moved 20 = .ok (.iload_n 3, 1) := by decide +kernel
theorem dX4_moved_21 : decode cX4_moved 21 = .ok (.iconst 4, 1) := by decide +kernel
theorem dX4_moved_22 : decode cX4_moved 22 = .ok (.if_icmp .ge 7, 3) := by decide +kernel
theorem dX4_moved_25 : decode cX4_moved 25 = .ok (.iconst 0, 1) := by decide +kernel
theorem dX4_moved_26 : decode cX4_moved 26 = .ok (.goto 5, 3) := by decide +kernel
theorem dX4_moved_29 : decode cX4_moved 29 = .ok (.bipush 15, 2) := by decide +kernel
theorem dX4_moved_31 : decode cX4_moved 31 = .ok (.iconst 3, 1) := by decide +kernel
theorem dX4_moved_32 : decode cX4_moved 32 = .ok (.iload 4, 2) := by decide +kernel
theorem dX4_moved_34 : decode cX4_moved 34 = .ok (.imul, 1) := by decide +kernel
theorem dX4_moved_35 : decode cX4_moved 35 = .ok (.iadd, 1) := by decide +kernel
theorem dX4_moved_36 : decode cX4_moved 36 = .ok (.istore 5, 2) := by decide +kernel
theorem dX4_moved_38 : decode cX4_moved 38 = .ok (.iload_n 2, 1) := by decide +kernel
theorem dX4_moved_39 : decode cX4_moved 39 = .ok (.iload_n 1, 1) := by decide +kernel
theorem dX4_moved_40 : decode cX4_moved 40 = .ok (.iload 5, 2) := by decide +kernel
theorem dX4_moved_42 : decode cX4_moved 42 = .ok (.ishr, 1) := by decide +kernel
theorem dX4_moved_43 : decode cX4_moved 43 = .ok (.bipush 7, 2) := by decide +kernel
theorem dX4_moved_45 : decode cX4_moved 45 = .ok (.iand, 1) := by decide +kernel
theorem dX4_moved_46 : decode cX4_moved 46 = .ok (.iconst 3, 1) := by decide +kernel
theorem dX4_moved_47 : decode cX4_moved 47 = .ok (.iload_n 3, 1) := by decide +kernel
theorem dX4_moved_48 : decode cX4_moved 48 = .ok (.imul, 1) := by decide +kernel
theorem dX4_moved_49 : decode cX4_moved 49 = .ok (.ishl, 1) := by decide +kernel
theorem dX4_moved_50 : decode cX4_moved 50 = .ok (.ior, 1) := by decide +kernel
theorem dX4_moved_51 : decode cX4_moved 51 = .ok (.istore_n 2, 1) := by decide +kernel
theorem dX4_moved_52 : decode cX4_moved 52 = .ok (.iinc 3 1, 3) := by decide +kernel
theorem dX4_moved_55 : decode cX4_moved 55 = .ok (.goto (-51), 3) := by decide +kernel
theorem dX4_moved_58 : decode cX4_moved 58 = .ok (.iload_n 2, 1) := by decide +kernel
theorem dX4_moved_59 : decode cX4_moved 59 = .ok (.ireturn, 1) := by decide +kernel
def fX4_moved_31 (k4 : PH → Int32 → Int32 → Int32 → Int32 → Option (Int32 × PH)) (g : PH) (v0 : Int32) (v1 : Int32) (v2 : Int32) (v3 : Int32) (v4 : Int32) (s0 : Int32) : Option (Int32 × PH) :=
  k4 g v0 v1 (v2 ||| (((v1 >>> ((s0 + ((3 : Int32) * v4)) &&& 31)) &&& (7 : Int32)) <<< (((3 : Int32) * v3) &&& 31))) (v3 + (1 : Int32))
set_option maxHeartbeats 4000000 in
set_option maxRecDepth 100000 in
theorem bX4_moved_31 {K : HK} {E : HE} {r : Int32} {g' : PH} {k4 : PH → Int32 → Int32 → Int32 → Int32 → Option (Int32 × PH)} (C : VC K E 6 cX4_moved RX4 (some .int)) (hk4 : ∀ (g : PH) (v0 : Int32) (v1 : Int32) (v2 : Int32) (v3 : Int32), k4 g v0 v1 v2 v3 = some (r, g') → V K E (hRm 0 0 0 0) 6 (hZ K E (some (.int r)) g' 0 0) 0 0 (kS K) g 4 [(0, .int v0), (1, .int v1), (2, .int v2), (3, .int v3)] []) {g : PH} {v0 : Int32} {v1 : Int32} {v2 : Int32} {v3 : Int32} {v4 : Int32} {s0 : Int32} (hf : fX4_moved_31 k4 g v0 v1 v2 v3 v4 s0 = some (r, g')) : V K E (hRm 0 0 0 0) 6 (hZ K E (some (.int r)) g' 0 0) 0 0 (kS K) g 31 [(0, .int v0), (1, .int v1), (2, .int v2), (3, .int v3), (4, .int v4)] [.int s0] := by
  unfold fX4_moved_31 at hf
  refine V.iconst (pc := 31) C dX4_moved_31 (v := (3 : Int32)) (by decide) ?_
  refine V.iload (pc := 32) C dX4_moved_32 4 rfl ?_
  refine V.imul (pc := 34) C dX4_moved_34 ?_
  refine V.iadd (pc := 35) C dX4_moved_35 ?_
  refine V.istore (pc := 36) (L' := [(5, .int (s0 + ((3 : Int32) * v4))), (0, .int v0), (1, .int v1), (2, .int v2), (3, .int v3), (4, .int v4)]) C dX4_moved_36 (by decide) rfl ?_
  refine V.iload_n (pc := 38) C dX4_moved_38 3 rfl ?_
  refine V.iload_n (pc := 39) C dX4_moved_39 2 rfl ?_
  refine V.iload (pc := 40) C dX4_moved_40 0 rfl ?_
  refine V.ishr (pc := 42) C dX4_moved_42 ?_
  refine V.bipush (pc := 43) C dX4_moved_43 (v := (7 : Int32)) (by decide) ?_
  refine V.iand (pc := 45) C dX4_moved_45 ?_
  refine V.iconst (pc := 46) C dX4_moved_46 (v := (3 : Int32)) (by decide) ?_
  refine V.iload_n (pc := 47) C dX4_moved_47 4 rfl ?_
  refine V.imul (pc := 48) C dX4_moved_48 ?_
  refine V.ishl (pc := 49) C dX4_moved_49 ?_
  refine V.ior (pc := 50) C dX4_moved_50 ?_
  refine V.istore_n (pc := 51) (L' := [(2, .int (v2 ||| (((v1 >>> ((s0 + ((3 : Int32) * v4)) &&& 31)) &&& (7 : Int32)) <<< (((3 : Int32) * v3) &&& 31)))), (5, .int (s0 + ((3 : Int32) * v4))), (0, .int v0), (1, .int v1), (3, .int v3), (4, .int v4)]) C dX4_moved_51 (by decide) rfl ?_
  refine V.iinc (pc := 52) (v := (v3 + (1 : Int32))) (L' := [(3, .int (v3 + (1 : Int32))), (2, .int (v2 ||| (((v1 >>> ((s0 + ((3 : Int32) * v4)) &&& 31)) &&& (7 : Int32)) <<< (((3 : Int32) * v3) &&& 31)))), (5, .int (s0 + ((3 : Int32) * v4))), (0, .int v0), (1, .int v1), (4, .int v4)]) C dX4_moved_52 4 rfl rfl (by decide) rfl ?_
  refine V.goto (pc := 55) (t := 4) C dX4_moved_55 (by decide) ?_
  refine V.sub (L' := [(0, .int v0), (1, .int v1), (2, .int (v2 ||| (((v1 >>> ((s0 + ((3 : Int32) * v4)) &&& 31)) &&& (7 : Int32)) <<< (((3 : Int32) * v3) &&& 31)))), (3, .int (v3 + (1 : Int32)))]) [3, 4, 1, 0] rfl ?_
  exact hk4 _ _ _ _ _ hf
def fX4_moved_4  : Nat → PH → Int32 → Int32 → Int32 → Int32 → Option (Int32 × PH)
  | 0, _, _, _, _, _ => none
  | n + 1, g, v0, v1, v2, v3 =>
  if (8 : Int32) ≤ v3 then (some (v2, g)) else
  (if (4 : Int32) ≤ v3 then (fX4_moved_31 (fX4_moved_4 n) g v0 v1 v2 v3 ((v0 >>> (((3 : Int32) * v3) &&& 31)) &&& (7 : Int32)) (15 : Int32)) else
  (fX4_moved_31 (fX4_moved_4 n) g v0 v1 v2 v3 ((v0 >>> (((3 : Int32) * v3) &&& 31)) &&& (7 : Int32)) (0 : Int32)))
set_option maxHeartbeats 4000000 in
set_option maxRecDepth 100000 in
theorem bX4_moved_4 {K : HK} {E : HE} {r : Int32} {g' : PH}  (C : VC K E 6 cX4_moved RX4 (some .int))  : ∀ (n : Nat) (g : PH) (v0 : Int32) (v1 : Int32) (v2 : Int32) (v3 : Int32), fX4_moved_4  n g v0 v1 v2 v3 = some (r, g') → V K E (hRm 0 0 0 0) 6 (hZ K E (some (.int r)) g' 0 0) 0 0 (kS K) g 4 [(0, .int v0), (1, .int v1), (2, .int v2), (3, .int v3)] [] := by
  intro n
  induction n with
  | zero =>
    intro g v0 v1 v2 v3 hf
    rw [fX4_moved_4] at hf
    cases hf
  | succ n ih =>
    intro g v0 v1 v2 v3 hf
    rw [fX4_moved_4] at hf
    refine V.iload_n (pc := 4) C dX4_moved_4 3 rfl ?_
    refine V.bipush (pc := 5) C dX4_moved_5 (v := (8 : Int32)) (by decide) ?_
    refine V.icmp_ge (pc := 7) (t := 58) C dX4_moved_7 (by decide) (fun c1 => ?_) (fun c1 => ?_)
    · replace hf := ite_t c1 hf
      refine V.iload_n (pc := 58) C dX4_moved_58 2 rfl ?_
      obtain ⟨f1, f2⟩ := fin2 hf
      clear hf
      subst f1
      subst f2
      exact V.iret (pc := 59) C rfl dX4_moved_59
    replace hf := ite_f c1 hf
    refine V.iload_n (pc := 10) C dX4_moved_10 0 rfl ?_
    refine V.iconst (pc := 11) C dX4_moved_11 (v := (3 : Int32)) (by decide) ?_
    refine V.iload_n (pc := 12) C dX4_moved_12 3 rfl ?_
    refine V.imul (pc := 13) C dX4_moved_13 ?_
    refine V.ishr (pc := 14) C dX4_moved_14 ?_
    refine V.bipush (pc := 15) C dX4_moved_15 (v := (7 : Int32)) (by decide) ?_
    refine V.iand (pc := 17) C dX4_moved_17 ?_
    refine V.istore (pc := 18) (L' := [(4, .int ((v0 >>> (((3 : Int32) * v3) &&& 31)) &&& (7 : Int32))), (0, .int v0), (1, .int v1), (2, .int v2), (3, .int v3)]) C dX4_moved_18 (by decide) rfl ?_
    refine V.iload_n (pc := 20) C dX4_moved_20 4 rfl ?_
    refine V.iconst (pc := 21) C dX4_moved_21 (v := (4 : Int32)) (by decide) ?_
    refine V.icmp_ge (pc := 22) (t := 29) C dX4_moved_22 (by decide) (fun c2 => ?_) (fun c2 => ?_)
    · replace hf := ite_t c2 hf
      refine V.bipush (pc := 29) C dX4_moved_29 (v := (15 : Int32)) (by decide) ?_
      refine V.sub (L' := [(0, .int v0), (1, .int v1), (2, .int v2), (3, .int v3), (4, .int ((v0 >>> (((3 : Int32) * v3) &&& 31)) &&& (7 : Int32)))]) [1, 2, 3, 4, 0] rfl ?_
      exact bX4_moved_31 C ih hf
    replace hf := ite_f c2 hf
    refine V.iconst (pc := 25) C dX4_moved_25 (v := (0 : Int32)) (by decide) ?_
    refine V.goto (pc := 26) (t := 31) C dX4_moved_26 (by decide) ?_
    refine V.sub (L' := [(0, .int v0), (1, .int v1), (2, .int v2), (3, .int v3), (4, .int ((v0 >>> (((3 : Int32) * v3) &&& 31)) &&& (7 : Int32)))]) [1, 2, 3, 4, 0] rfl ?_
    exact bX4_moved_31 C ih hf
def fX4_moved (g : PH) (a0 : Int32) (a1 : Int32) : Option (Int32 × PH) :=
  fX4_moved_4 FUEL g a0 a1 (0 : Int32) (0 : Int32)
theorem hyX4_moved : hMetS yX4_moved cX4_moved 6 (some .int) 2 := ⟨wd_792, wd_791, wd_15, by decide +kernel, by decide +kernel, by decide +kernel⟩
set_option maxHeartbeats 4000000 in
set_option maxRecDepth 100000 in
theorem mX4_moved (l : Launch) (E : HE) (sz : Nat) {g g' : PH} {a0 : Int32} {a1 : Int32} {r : Int32} (hf : fX4_moved g a0 a1 = some (r, g')) : hM l E yX4_moved cX4_moved 6 (some .int) 0 0 0 0 sz g [.int a0, .int a1] (some (.int r)) g' := by
  refine hM.of (by decide) (Nat.le_of_ble_eq_true rfl) (fun K hl C hin hsz => ?_)
  subst hl
  subst hsz
  have C : VC K E 6 cX4_moved RX4 (some .int) := C
  unfold fX4_moved at hf
  refine V.start (L' := [(0, .int a0), (1, .int a1)]) rfl ?_
  refine V.iconst (pc := 0) C dX4_moved_0 (v := (0 : Int32)) (by decide) ?_
  refine V.istore_n (pc := 1) (L' := [(2, .int (0 : Int32)), (0, .int a0), (1, .int a1)]) C dX4_moved_1 (by decide) rfl ?_
  refine V.iconst (pc := 2) C dX4_moved_2 (v := (0 : Int32)) (by decide) ?_
  refine V.istore_n (pc := 3) (L' := [(3, .int (0 : Int32)), (2, .int (0 : Int32)), (0, .int a0), (1, .int a1)]) C dX4_moved_3 (by decide) rfl ?_
  refine V.sub (L' := [(0, .int a0), (1, .int a1), (2, .int (0 : Int32)), (3, .int (0 : Int32))]) [2, 3, 1, 0] rfl ?_
  exact bX4_moved_4 C  _ _ _ _ _ _ hf
theorem dX4_soundBehind_0 : decode cX4_soundBehind 0 = .ok (.iload_n 1, 1) := by decide +kernel
theorem dX4_soundBehind_1 : decode cX4_soundBehind 1 = .ok (.istore_n 3, 1) := by decide +kernel
theorem dX4_soundBehind_2 : decode cX4_soundBehind 2 = .ok (.iconst 0, 1) := by decide +kernel
theorem dX4_soundBehind_3 : decode cX4_soundBehind 3 = .ok (.istore 4, 2) := by decide +kernel
theorem dX4_soundBehind_5 : decode cX4_soundBehind 5 = .ok (.iload 4, 2) := by decide +kernel
theorem dX4_soundBehind_7 : decode cX4_soundBehind 7 = .ok (.aload_n 0, 1) := by decide +kernel
theorem dX4_soundBehind_8 : decode cX4_soundBehind 8 = .ok (.getfield 19, 3) := by decide +kernel
theorem dX4_soundBehind_11 : decode cX4_soundBehind 11 = .ok (.iload_n 2, 1) := by decide +kernel
theorem dX4_soundBehind_12 : decode cX4_soundBehind 12 = .ok (.iaload, 1) := by decide +kernel
theorem dX4_soundBehind_13 : decode cX4_soundBehind 13 = .ok (.if_icmp .ge 34, 3) := by decide +kernel
theorem dX4_soundBehind_16 : decode cX4_soundBehind 16 = .ok (.aload_n 0, 1) := by decide +kernel
theorem dX4_soundBehind_17 : decode cX4_soundBehind 17 = .ok (.getfield 26, 3) := by decide +kernel
theorem dX4_soundBehind_20 : decode cX4_soundBehind 20 = .ok (.iload_n 2, 1) := by decide +kernel
theorem dX4_soundBehind_21 : decode cX4_soundBehind 21 = .ok (.iconst 3, 1) := by decide +kernel
theorem dX4_soundBehind_22 : decode cX4_soundBehind 22 = .ok (.imul, 1) := by decide +kernel
theorem dX4_soundBehind_23 : decode cX4_soundBehind 23 = .ok (.iload 4, 2) := by decide +kernel
theorem dX4_soundBehind_25 : decode cX4_soundBehind 25 = .ok (.iadd, 1) := by decide +kernel
theorem dX4_soundBehind_26 : decode cX4_soundBehind 26 = .ok (.iaload, 1) := by decide +kernel
theorem dX4_soundBehind_27 : decode cX4_soundBehind 27 = .ok (.istore 5, 2) := by decide +kernel
theorem dX4_soundBehind_29 : decode cX4_soundBehind 29 = .ok (.iload 5, 2) := by decide +kernel
theorem dX4_soundBehind_31 : decode cX4_soundBehind 31 = .ok (.ifCond .ne 7, 3) := by decide +kernel
theorem dX4_soundBehind_34 : decode cX4_soundBehind 34 = .ok (.iload_n 3, 1) := by decide +kernel
theorem dX4_soundBehind_35 : decode cX4_soundBehind 35 = .ok (.goto 5, 3) := by decide +kernel
theorem dX4_soundBehind_38 : decode cX4_soundBehind 38 = .ok (.iload 5, 2) := by decide +kernel
theorem dX4_soundBehind_40 : decode cX4_soundBehind 40 = .ok (.istore_n 3, 1) := by decide +kernel
theorem dX4_soundBehind_41 : decode cX4_soundBehind 41 = .ok (.iinc 4 1, 3) := by decide +kernel
theorem dX4_soundBehind_44 : decode cX4_soundBehind 44 = .ok (.goto (-39), 3) := by decide +kernel
theorem dX4_soundBehind_47 : decode cX4_soundBehind 47 = .ok (.iload_n 3, 1) := by decide +kernel
theorem dX4_soundBehind_48 : decode cX4_soundBehind 48 = .ok (.ireturn, 1) := by decide +kernel
def fX4_soundBehind_40 (k5 : PH → Nat → Int32 → Int32 → Int32 → Option (Int32 × PH)) (g : PH) (v0 : Nat) (v2 : Int32) (v4 : Int32) (s0 : Int32) : Option (Int32 × PH) :=
  k5 g v0 v2 s0 (v4 + (1 : Int32))
set_option maxHeartbeats 4000000 in
set_option maxRecDepth 100000 in
theorem bX4_soundBehind_40 {K : HK} {E : HE} {r : Int32} {g' : PH} {k5 : PH → Nat → Int32 → Int32 → Int32 → Option (Int32 × PH)} (C : VC K E 6 cX4_soundBehind RX4 (some .int)) (hk5 : ∀ (g : PH) (v0 : Nat) (v2 : Int32) (v3 : Int32) (v4 : Int32), k5 g v0 v2 v3 v4 = some (r, g') → V K E (hRm 0 0 0 0) 6 (hZ K E (some (.int r)) g' 0 0) 0 0 (kS K) g 5 [(0, .ref v0), (2, .int v2), (3, .int v3), (4, .int v4)] []) {g : PH} {v0 : Nat} {v2 : Int32} {v4 : Int32} {s0 : Int32} (hf : fX4_soundBehind_40 k5 g v0 v2 v4 s0 = some (r, g')) : V K E (hRm 0 0 0 0) 6 (hZ K E (some (.int r)) g' 0 0) 0 0 (kS K) g 40 [(0, .ref v0), (2, .int v2), (4, .int v4)] [.int s0] := by
  unfold fX4_soundBehind_40 at hf
  refine V.istore_n (pc := 40) (L' := [(3, .int s0), (0, .ref v0), (2, .int v2), (4, .int v4)]) C dX4_soundBehind_40 (by decide) rfl ?_
  refine V.iinc (pc := 41) (v := (v4 + (1 : Int32))) (L' := [(4, .int (v4 + (1 : Int32))), (3, .int s0), (0, .ref v0), (2, .int v2)]) C dX4_soundBehind_41 3 rfl rfl (by decide) rfl ?_
  refine V.goto (pc := 44) (t := 5) C dX4_soundBehind_44 (by decide) ?_
  refine V.sub (L' := [(0, .ref v0), (2, .int v2), (3, .int s0), (4, .int (v4 + (1 : Int32)))]) [2, 3, 1, 0] rfl ?_
  exact hk5 _ _ _ _ _ hf
def fX4_soundBehind_5  : Nat → PH → Nat → Int32 → Int32 → Int32 → Option (Int32 × PH)
  | 0, _, _, _, _, _ => none
  | n + 1, g, v0, v2, v3, v4 =>
  (getR g v0 4 2).bind fun p1 =>
  ((ldI g p1 0 v2).bind fun x3 =>
  (if x3 ≤ v4 then (some (v3, g)) else
  ((getR g v0 4 4).bind fun p6 =>
  ((ldI g p6 0 ((v2 * (3 : Int32)) + v4)).bind fun x8 =>
  (if x8 = 0 then (fX4_soundBehind_40 (fX4_soundBehind_5 n) g v0 v2 v4 v3) else
  (fX4_soundBehind_40 (fX4_soundBehind_5 n) g v0 v2 v4 x8))))))
set_option maxHeartbeats 4000000 in
set_option maxRecDepth 100000 in
theorem bX4_soundBehind_5 {K : HK} {E : HE} {r : Int32} {g' : PH}  (C : VC K E 6 cX4_soundBehind RX4 (some .int))  : ∀ (n : Nat) (g : PH) (v0 : Nat) (v2 : Int32) (v3 : Int32) (v4 : Int32), fX4_soundBehind_5  n g v0 v2 v3 v4 = some (r, g') → V K E (hRm 0 0 0 0) 6 (hZ K E (some (.int r)) g' 0 0) 0 0 (kS K) g 5 [(0, .ref v0), (2, .int v2), (3, .int v3), (4, .int v4)] [] := by
  intro n
  induction n with
  | zero =>
    intro g v0 v2 v3 v4 hf
    rw [fX4_soundBehind_5] at hf
    cases hf
  | succ n ih =>
    intro g v0 v2 v3 v4 hf
    rw [fX4_soundBehind_5] at hf
    refine V.iload (pc := 5) C dX4_soundBehind_5 3 rfl ?_
    refine V.aload_n (pc := 7) C dX4_soundBehind_7 0 rfl ?_
    replace hf := ob_some hf
    obtain ⟨p1, h2, hf⟩ := hf
    refine V.getR (pc := 8) C kX4 (k := 2) (by decide) wd_695 h2 dX4_soundBehind_8 ?_
    refine V.iload_n (pc := 11) C dX4_soundBehind_11 1 rfl ?_
    replace hf := ob_some hf
    obtain ⟨x3, h4, hf⟩ := hf
    refine V.iald (pc := 12) C h4 dX4_soundBehind_12 ?_
    refine V.icmp_ge (pc := 13) (t := 47) C dX4_soundBehind_13 (by decide) (fun c5 => ?_) (fun c5 => ?_)
    · replace hf := ite_t c5 hf
      refine V.iload_n (pc := 47) C dX4_soundBehind_47 2 rfl ?_
      obtain ⟨f1, f2⟩ := fin2 hf
      clear hf
      subst f1
      subst f2
      exact V.iret (pc := 48) C rfl dX4_soundBehind_48
    replace hf := ite_f c5 hf
    refine V.aload_n (pc := 16) C dX4_soundBehind_16 0 rfl ?_
    replace hf := ob_some hf
    obtain ⟨p6, h7, hf⟩ := hf
    refine V.getR (pc := 17) C kX4 (k := 4) (by decide) wd_697 h7 dX4_soundBehind_17 ?_
    refine V.iload_n (pc := 20) C dX4_soundBehind_20 1 rfl ?_
    refine V.iconst (pc := 21) C dX4_soundBehind_21 (v := (3 : Int32)) (by decide) ?_
    refine V.imul (pc := 22) C dX4_soundBehind_22 ?_
    refine V.iload (pc := 23) C dX4_soundBehind_23 3 rfl ?_
    refine V.iadd (pc := 25) C dX4_soundBehind_25 ?_
    replace hf := ob_some hf
    obtain ⟨x8, h9, hf⟩ := hf
    refine V.iald (pc := 26) C h9 dX4_soundBehind_26 ?_
    refine V.istore (pc := 27) (L' := [(5, .int x8), (0, .ref v0), (2, .int v2), (3, .int v3), (4, .int v4)]) C dX4_soundBehind_27 (by decide) rfl ?_
    refine V.iload (pc := 29) C dX4_soundBehind_29 0 rfl ?_
    refine V.if_ne (pc := 31) (t := 38) C dX4_soundBehind_31 (by decide) (fun c10 => ?_) (fun c10 => ?_)
    · replace hf := ite_f c10 hf
      refine V.iload (pc := 38) C dX4_soundBehind_38 0 rfl ?_
      refine V.sub (L' := [(0, .ref v0), (2, .int v2), (4, .int v4)]) [1, 2, 4] rfl ?_
      exact bX4_soundBehind_40 C ih hf
    replace hf := ite_t c10 hf
    refine V.iload_n (pc := 34) C dX4_soundBehind_34 3 rfl ?_
    refine V.goto (pc := 35) (t := 40) C dX4_soundBehind_35 (by decide) ?_
    refine V.sub (L' := [(0, .ref v0), (2, .int v2), (4, .int v4)]) [1, 2, 4] rfl ?_
    exact bX4_soundBehind_40 C ih hf
def fX4_soundBehind (g : PH) (a0 : Nat) (a1 : Int32) (a2 : Int32) : Option (Int32 × PH) :=
  okb (isO g a0 4) (fX4_soundBehind_5 FUEL g a0 a2 a1 (0 : Int32))
theorem oX4_soundBehind {g : PH} {a0 : Nat} {a1 : Int32} {a2 : Int32} {q : (Int32 × PH)} (h : fX4_soundBehind g a0 a1 a2 = some q) : isO g a0 4 = true := by unfold fX4_soundBehind at h; exact (okb_some h).1
theorem hyX4_soundBehind : hMet yX4_soundBehind RX4 cX4_soundBehind 6 (some .int) 2 := ⟨wd_797, wd_796, ws_37, wd_15, rfl, by decide +kernel, by decide +kernel, by decide +kernel⟩
set_option maxHeartbeats 4000000 in
set_option maxRecDepth 100000 in
theorem mX4_soundBehind (l : Launch) (E : HE) (sz : Nat) {g g' : PH} {a0 : Nat} {a1 : Int32} {a2 : Int32} {r : Int32} (hf : fX4_soundBehind g a0 a1 a2 = some (r, g')) : hM l E yX4_soundBehind cX4_soundBehind 6 (some .int) 0 0 0 0 sz g [.ref a0, .int a1, .int a2] (some (.int r)) g' := by
  refine hM.of (by decide) (Nat.le_of_ble_eq_true rfl) (fun K hl C hin hsz => ?_)
  subst hl
  subst hsz
  have C : VC K E 6 cX4_soundBehind RX4 (some .int) := C
  unfold fX4_soundBehind at hf
  replace hf := okb_some hf
  obtain ⟨ho, hf⟩ := hf
  refine V.start (L' := [(0, .ref a0), (1, .int a1), (2, .int a2)]) rfl ?_
  refine V.iload_n (pc := 0) C dX4_soundBehind_0 1 rfl ?_
  refine V.istore_n (pc := 1) (L' := [(3, .int a1), (0, .ref a0), (1, .int a1), (2, .int a2)]) C dX4_soundBehind_1 (by decide) rfl ?_
  refine V.iconst (pc := 2) C dX4_soundBehind_2 (v := (0 : Int32)) (by decide) ?_
  refine V.istore (pc := 3) (L' := [(4, .int (0 : Int32)), (3, .int a1), (0, .ref a0), (1, .int a1), (2, .int a2)]) C dX4_soundBehind_3 (by decide) rfl ?_
  refine V.sub (L' := [(0, .ref a0), (2, .int a2), (3, .int a1), (4, .int (0 : Int32))]) [2, 4, 1, 0] rfl ?_
  exact bX4_soundBehind_5 C  _ _ _ _ _ _ hf
theorem dX4_arrive_0 : decode cX4_arrive 0 = .ok (.iconst 1, 1) := by decide +kernel
theorem dX4_arrive_1 : decode cX4_arrive 1 = .ok (.istore_n 3, 1) := by decide +kernel
theorem dX4_arrive_2 : decode cX4_arrive 2 = .ok (.iconst 0, 1) := by decide +kernel
theorem dX4_arrive_3 : decode cX4_arrive 3 = .ok (.istore 4, 2) := by decide +kernel
theorem dX4_arrive_5 : decode cX4_arrive 5 = .ok (.iload 4, 2) := by decide +kernel
theorem dX4_arrive_7 : decode cX4_arrive 7 = .ok (.aload_n 0, 1) := by decide +kernel
theorem dX4_arrive_8 : decode cX4_arrive 8 = .ok (.getfield 39, 3) := by decide +kernel
theorem dX4_arrive_11 : decode cX4_arrive 11 = .ok (.if_icmp .ge 98, 3) := by decide +kernel
theorem dX4_arrive_14 : decode cX4_arrive 14 = .ok (.aload_n 0, 1) := by decide +kernel
theorem dX4_arrive_15 : decode cX4_arrive 15 = .ok (.getfield 29, 3) := by decide +kernel
theorem dX4_arrive_18 : decode cX4_arrive 18 = .ok (.aload_n 0, 1) := by decide +kernel
theorem dX4_arrive_19 : decode cX4_arrive 19 = .ok (.getfield 36, 3) := by decide +kernel
theorem dX4_arrive_22 : decode cX4_arrive 22 = .ok (.iload 4, 2) := by decide +kernel
theorem dX4_arrive_24 : decode cX4_arrive 24 = .ok (.iaload, 1) := by decide +kernel
theorem dX4_arrive_25 : decode cX4_arrive 25 = .ok (.iconst 3, 1) := by decide +kernel
theorem dX4_arrive_26 : decode cX4_arrive 26 = .ok (.imul, 1) := by decide +kernel
theorem dX4_arrive_27 : decode cX4_arrive 27 = .ok (.aload_n 0, 1) := by decide +kernel
theorem dX4_arrive_28 : decode cX4_arrive 28 = .ok (.getfield 48, 3) := by decide +kernel
theorem dX4_arrive_31 : decode cX4_arrive 31 = .ok (.iload_n 1, 1) := by decide +kernel
theorem dX4_arrive_32 : decode cX4_arrive 32 = .ok (.iaload, 1) := by decide +kernel
theorem dX4_arrive_33 : decode cX4_arrive 33 = .ok (.iadd, 1) := by decide +kernel
theorem dX4_arrive_34 : decode cX4_arrive 34 = .ok (.bipush 78, 2) := by decide +kernel
theorem dX4_arrive_36 : decode cX4_arrive 36 = .ok (.imul, 1) := by decide +kernel
theorem dX4_arrive_37 : decode cX4_arrive 37 = .ok (.iload_n 2, 1) := by decide +kernel
theorem dX4_arrive_38 : decode cX4_arrive 38 = .ok (.iadd, 1) := by decide +kernel
theorem dX4_arrive_39 : decode cX4_arrive 39 = .ok (.iaload, 1) := by decide +kernel
theorem dX4_arrive_40 : decode cX4_arrive 40 = .ok (.istore 5, 2) := by decide +kernel
theorem dX4_arrive_42 : decode cX4_arrive 42 = .ok (.iload 5, 2) := by decide +kernel
theorem dX4_arrive_44 : decode cX4_arrive 44 = .ok (.iconst (-1), 1) := by decide +kernel
theorem dX4_arrive_45 : decode cX4_arrive 45 = .ok (.if_icmp .ne 5, 3) := by decide +kernel
theorem dX4_arrive_48 : decode cX4_arrive 48 = .ok (.iconst 0, 1) := by decide +kernel
theorem dX4_arrive_49 : decode cX4_arrive 49 = .ok (.ireturn, 1) := by decide +kernel
theorem dX4_arrive_50 : decode cX4_arrive 50 = .ok (.aload_n 0, 1) := by decide +kernel
theorem dX4_arrive_51 : decode cX4_arrive 51 = .ok (.getfield 45, 3) := by decide +kernel
theorem dX4_arrive_54 : decode cX4_arrive 54 = .ok (.iload_n 1, 1) := by decide +kernel
theorem dX4_arrive_55 : decode cX4_arrive 55 = .ok (.bipush 8, 2) := by decide +kernel
theorem dX4_arrive_57 : decode cX4_arrive 57 = .ok (.imul, 1) := by decide +kernel
theorem dX4_arrive_58 : decode cX4_arrive 58 = .ok (.iload 4, 2) := by decide +kernel
theorem dX4_arrive_60 : decode cX4_arrive 60 = .ok (.iadd, 1) := by decide +kernel
theorem dX4_arrive_61 : decode cX4_arrive 61 = .ok (.iaload, 1) := by decide +kernel
theorem dX4_arrive_62 : decode cX4_arrive 62 = .ok (.iload 5, 2) := by decide +kernel
theorem dX4_arrive_64 : decode cX4_arrive 64 = .ok (.invokestatic 120, 3) := by decide +kernel
theorem dX4_arrive_67 : decode cX4_arrive 67 = .ok (.istore 6, 2) := by decide +kernel
theorem dX4_arrive_69 : decode cX4_arrive 69 = .ok (.aload_n 0, 1) := by decide +kernel
theorem dX4_arrive_70 : decode cX4_arrive 70 = .ok (.getfield 45, 3) := by decide +kernel
theorem dX4_arrive_73 : decode cX4_arrive 73 = .ok (.aload_n 0, 1) := by decide +kernel
theorem dX4_arrive_74 : decode cX4_arrive 74 = .ok (.getfield 42, 3) := by decide +kernel
theorem dX4_arrive_77 : decode cX4_arrive 77 = .ok (.bipush 8, 2) := by decide +kernel
theorem dX4_arrive_79 : decode cX4_arrive 79 = .ok (.imul, 1) := by decide +kernel
theorem dX4_arrive_80 : decode cX4_arrive 80 = .ok (.iload 4, 2) := by decide +kernel
theorem dX4_arrive_82 : decode cX4_arrive 82 = .ok (.iadd, 1) := by decide +kernel
theorem dX4_arrive_83 : decode cX4_arrive 83 = .ok (.iload 6, 2) := by decide +kernel
theorem dX4_arrive_85 : decode cX4_arrive 85 = .ok (.iastore, 1) := by decide +kernel
theorem dX4_arrive_86 : decode cX4_arrive 86 = .ok (.iload_n 3, 1) := by decide +kernel
theorem dX4_arrive_87 : decode cX4_arrive 87 = .ok (.ifCond .eq 14, 3) := by decide +kernel
theorem dX4_arrive_90 : decode cX4_arrive 90 = .ok (.iload 6, 2) := by decide +kernel
theorem dX4_arrive_92 : decode cX4_arrive 92 = .ok (.ldc 123, 2) := by decide +kernel
theorem dX4_arrive_94 : decode cX4_arrive 94 = .ok (.if_icmp .ne 7, 3) := by decide +kernel
theorem dX4_arrive_97 : decode cX4_arrive 97 = .ok (.iconst 1, 1) := by decide +kernel
theorem dX4_arrive_98 : decode cX4_arrive 98 = .ok (.goto 4, 3) := by decide +kernel
theorem dX4_arrive_101 : decode cX4_arrive 101 = .ok (.iconst 0, 1) := by decide +kernel
theorem dX4_arrive_102 : decode cX4_arrive 102 = .ok (.istore_n 3, 1) := by decide +kernel
theorem dX4_arrive_103 : decode cX4_arrive 103 = .ok (.iinc 4 1, 3) := by decide +kernel
theorem dX4_arrive_106 : decode cX4_arrive 106 = .ok (.goto (-101), 3) := by decide +kernel
theorem dX4_arrive_109 : decode cX4_arrive 109 = .ok (.aload_n 0, 1) := by decide +kernel
theorem dX4_arrive_110 : decode cX4_arrive 110 = .ok (.getfield 48, 3) := by decide +kernel
theorem dX4_arrive_113 : decode cX4_arrive 113 = .ok (.aload_n 0, 1) := by decide +kernel
theorem dX4_arrive_114 : decode cX4_arrive 114 = .ok (.getfield 42, 3) := by decide +kernel
theorem dX4_arrive_117 : decode cX4_arrive 117 = .ok (.aload_n 0, 1) := by decide +kernel
theorem dX4_arrive_118 : decode cX4_arrive 118 = .ok (.aload_n 0, 1) := by decide +kernel
theorem dX4_arrive_119 : decode cX4_arrive 119 = .ok (.getfield 48, 3) := by decide +kernel
theorem dX4_arrive_122 : decode cX4_arrive 122 = .ok (.iload_n 1, 1) := by decide +kernel
theorem dX4_arrive_123 : decode cX4_arrive 123 = .ok (.iaload, 1) := by decide +kernel
theorem dX4_arrive_124 : decode cX4_arrive 124 = .ok (.iload_n 2, 1) := by decide +kernel
theorem dX4_arrive_125 : decode cX4_arrive 125 = .ok (.invokevirtual 124, 3) := by decide +kernel
theorem dX4_arrive_128 : decode cX4_arrive 128 = .ok (.iastore, 1) := by decide +kernel
theorem dX4_arrive_129 : decode cX4_arrive 129 = .ok (.aload_n 0, 1) := by decide +kernel
theorem dX4_arrive_130 : decode cX4_arrive 130 = .ok (.getfield 51, 3) := by decide +kernel
theorem dX4_arrive_133 : decode cX4_arrive 133 = .ok (.aload_n 0, 1) := by decide +kernel
theorem dX4_arrive_134 : decode cX4_arrive 134 = .ok (.getfield 42, 3) := by decide +kernel
theorem dX4_arrive_137 : decode cX4_arrive 137 = .ok (.iload_n 1, 1) := by decide +kernel
theorem dX4_arrive_138 : decode cX4_arrive 138 = .ok (.iastore, 1) := by decide +kernel
theorem dX4_arrive_139 : decode cX4_arrive 139 = .ok (.aload_n 0, 1) := by decide +kernel
theorem dX4_arrive_140 : decode cX4_arrive 140 = .ok (.getfield 54, 3) := by decide +kernel
theorem dX4_arrive_143 : decode cX4_arrive 143 = .ok (.aload_n 0, 1) := by decide +kernel
theorem dX4_arrive_144 : decode cX4_arrive 144 = .ok (.getfield 42, 3) := by decide +kernel
theorem dX4_arrive_147 : decode cX4_arrive 147 = .ok (.iload_n 2, 1) := by decide +kernel
theorem dX4_arrive_148 : decode cX4_arrive 148 = .ok (.iastore, 1) := by decide +kernel
theorem dX4_arrive_149 : decode cX4_arrive 149 = .ok (.iload_n 3, 1) := by decide +kernel
theorem dX4_arrive_150 : decode cX4_arrive 150 = .ok (.ifCond .eq 5, 3) := by decide +kernel
theorem dX4_arrive_153 : decode cX4_arrive 153 = .ok (.iconst 1, 1) := by decide +kernel
theorem dX4_arrive_154 : decode cX4_arrive 154 = .ok (.ireturn, 1) := by decide +kernel
theorem dX4_arrive_155 : decode cX4_arrive 155 = .ok (.aload_n 0, 1) := by decide +kernel
theorem dX4_arrive_156 : decode cX4_arrive 156 = .ok (.aload_n 0, 1) := by decide +kernel
theorem dX4_arrive_157 : decode cX4_arrive 157 = .ok (.getfield 42, 3) := by decide +kernel
theorem dX4_arrive_160 : decode cX4_arrive 160 = .ok (.invokevirtual 83, 3) := by decide +kernel
theorem dX4_arrive_163 : decode cX4_arrive 163 = .ok (.istore 4, 2) := by decide +kernel
theorem dX4_arrive_165 : decode cX4_arrive 165 = .ok (.aload_n 0, 1) := by decide +kernel
theorem dX4_arrive_166 : decode cX4_arrive 166 = .ok (.getfield 57, 3) := by decide +kernel
theorem dX4_arrive_169 : decode cX4_arrive 169 = .ok (.iload 4, 2) := by decide +kernel
theorem dX4_arrive_171 : decode cX4_arrive 171 = .ok (.iaload, 1) := by decide +kernel
theorem dX4_arrive_172 : decode cX4_arrive 172 = .ok (.ifCond .eq 5, 3) := by decide +kernel
theorem dX4_arrive_175 : decode cX4_arrive 175 = .ok (.iconst 0, 1) := by decide +kernel
theorem dX4_arrive_176 : decode cX4_arrive 176 = .ok (.ireturn, 1) := by decide +kernel
theorem dX4_arrive_177 : decode cX4_arrive 177 = .ok (.aload_n 0, 1) := by decide +kernel
theorem dX4_arrive_178 : decode cX4_arrive 178 = .ok (.getfield 42, 3) := by decide +kernel
theorem dX4_arrive_181 : decode cX4_arrive 181 = .ok (.sipush 1200, 3) := by decide +kernel
theorem dX4_arrive_184 : decode cX4_arrive 184 = .ok (.if_icmp .lt 5, 3) := by decide +kernel
theorem dX4_arrive_187 : decode cX4_arrive 187 = .ok (.iconst 2, 1) := by decide +kernel
theorem dX4_arrive_188 : decode cX4_arrive 188 = .ok (.ireturn, 1) := by decide +kernel
theorem dX4_arrive_189 : decode cX4_arrive 189 = .ok (.aload_n 0, 1) := by decide +kernel
theorem dX4_arrive_190 : decode cX4_arrive 190 = .ok (.dup, 1) := by decide +kernel
theorem dX4_arrive_191 : decode cX4_arrive 191 = .ok (.getfield 42, 3) := by decide +kernel
theorem dX4_arrive_194 : decode cX4_arrive 194 = .ok (.iconst 1, 1) := by decide +kernel
theorem dX4_arrive_195 : decode cX4_arrive 195 = .ok (.iadd, 1) := by decide +kernel
theorem dX4_arrive_196 : decode cX4_arrive 196 = .ok (.putfield 42, 3) := by decide +kernel
theorem dX4_arrive_199 : decode cX4_arrive 199 = .ok (.aload_n 0, 1) := by decide +kernel
theorem dX4_arrive_200 : decode cX4_arrive 200 = .ok (.getfield 57, 3) := by decide +kernel
theorem dX4_arrive_203 : decode cX4_arrive 203 = .ok (.iload 4, 2) := by decide +kernel
theorem dX4_arrive_205 : decode cX4_arrive 205 = .ok (.aload_n 0, 1) := by decide +kernel
theorem dX4_arrive_206 : decode cX4_arrive 206 = .ok (.getfield 42, 3) := by decide +kernel
theorem dX4_arrive_209 : decode cX4_arrive 209 = .ok (.iastore, 1) := by decide +kernel
theorem dX4_arrive_210 : decode cX4_arrive 210 = .ok (.iconst 0, 1) := by decide +kernel
theorem dX4_arrive_211 : decode cX4_arrive 211 = .ok (.ireturn, 1) := by decide +kernel
def fX4_arrive_102 (k5 : PH → Nat → Int32 → Int32 → Int32 → Int32 → Option (Int32 × PH)) (g : PH) (v0 : Nat) (v1 : Int32) (v2 : Int32) (v4 : Int32) (s0 : Int32) : Option (Int32 × PH) :=
  k5 g v0 v1 v2 s0 (v4 + (1 : Int32))
set_option maxHeartbeats 4000000 in
set_option maxRecDepth 100000 in
theorem bX4_arrive_102 {K : HK} {E : HE} {r : Int32} {g' : PH} {k5 : PH → Nat → Int32 → Int32 → Int32 → Int32 → Option (Int32 × PH)} (C : VC K E 7 cX4_arrive RX4 (some .int)) (hk5 : ∀ (g : PH) (v0 : Nat) (v1 : Int32) (v2 : Int32) (v3 : Int32) (v4 : Int32), k5 g v0 v1 v2 v3 v4 = some (r, g') → V K E (hRm 2 47 0 0) 7 (hZ K E (some (.int r)) g' 0 0) 0 0 (kS K) g 5 [(0, .ref v0), (1, .int v1), (2, .int v2), (3, .int v3), (4, .int v4)] []) {g : PH} {v0 : Nat} {v1 : Int32} {v2 : Int32} {v4 : Int32} {s0 : Int32} (hf : fX4_arrive_102 k5 g v0 v1 v2 v4 s0 = some (r, g')) : V K E (hRm 2 47 0 0) 7 (hZ K E (some (.int r)) g' 0 0) 0 0 (kS K) g 102 [(0, .ref v0), (1, .int v1), (2, .int v2), (4, .int v4)] [.int s0] := by
  unfold fX4_arrive_102 at hf
  refine V.istore_n (pc := 102) (L' := [(3, .int s0), (0, .ref v0), (1, .int v1), (2, .int v2), (4, .int v4)]) C dX4_arrive_102 (by decide) rfl ?_
  refine V.iinc (pc := 103) (v := (v4 + (1 : Int32))) (L' := [(4, .int (v4 + (1 : Int32))), (3, .int s0), (0, .ref v0), (1, .int v1), (2, .int v2)]) C dX4_arrive_103 4 rfl rfl (by decide) rfl ?_
  refine V.goto (pc := 106) (t := 5) C dX4_arrive_106 (by decide) ?_
  refine V.sub (L' := [(0, .ref v0), (1, .int v1), (2, .int v2), (3, .int s0), (4, .int (v4 + (1 : Int32)))]) [2, 3, 4, 1, 0] rfl ?_
  exact hk5 _ _ _ _ _ _ hf
def fX4_arrive_101 (k5 : PH → Nat → Int32 → Int32 → Int32 → Int32 → Option (Int32 × PH)) (g : PH) (v0 : Nat) (v1 : Int32) (v2 : Int32) (v4 : Int32) : Option (Int32 × PH) :=
  fX4_arrive_102 (k5) g v0 v1 v2 v4 (0 : Int32)
set_option maxHeartbeats 4000000 in
set_option maxRecDepth 100000 in
theorem bX4_arrive_101 {K : HK} {E : HE} {r : Int32} {g' : PH} {k5 : PH → Nat → Int32 → Int32 → Int32 → Int32 → Option (Int32 × PH)} (C : VC K E 7 cX4_arrive RX4 (some .int)) (hk5 : ∀ (g : PH) (v0 : Nat) (v1 : Int32) (v2 : Int32) (v3 : Int32) (v4 : Int32), k5 g v0 v1 v2 v3 v4 = some (r, g') → V K E (hRm 2 47 0 0) 7 (hZ K E (some (.int r)) g' 0 0) 0 0 (kS K) g 5 [(0, .ref v0), (1, .int v1), (2, .int v2), (3, .int v3), (4, .int v4)] []) {g : PH} {v0 : Nat} {v1 : Int32} {v2 : Int32} {v4 : Int32} (hf : fX4_arrive_101 k5 g v0 v1 v2 v4 = some (r, g')) : V K E (hRm 2 47 0 0) 7 (hZ K E (some (.int r)) g' 0 0) 0 0 (kS K) g 101 [(0, .ref v0), (1, .int v1), (2, .int v2), (4, .int v4)] [] := by
  unfold fX4_arrive_101 at hf
  refine V.iconst (pc := 101) C dX4_arrive_101 (v := (0 : Int32)) (by decide) ?_
  refine V.sub (L' := [(0, .ref v0), (1, .int v1), (2, .int v2), (4, .int v4)]) [0, 1, 2, 3] rfl ?_
  exact bX4_arrive_102 C hk5 hf
def fX4_arrive_5  : Nat → PH → Nat → Int32 → Int32 → Int32 → Int32 → Option (Int32 × PH)
  | 0, _, _, _, _, _, _ => none
  | n + 1, g, v0, v1, v2, v3, v4 =>
  (getI g v0 4 8).bind fun x1 =>
  (if x1 ≤ v4 then ((getR g v0 4 11).bind fun p4 =>
  ((getI g v0 4 9).bind fun x6 =>
  ((getR g v0 4 11).bind fun p8 =>
  ((ldI g p8 0 v1).bind fun x10 =>
  ((fX4_soundBehind g v0 x10 v2).bind fun q12 =>
  ((stI q12.2 p4 0 x6 q12.1).bind fun g14 =>
  ((getR g14 v0 4 12).bind fun p16 =>
  ((getI g14 v0 4 9).bind fun x18 =>
  ((stI g14 p16 0 x18 v1).bind fun g20 =>
  ((getR g20 v0 4 13).bind fun p22 =>
  ((getI g20 v0 4 9).bind fun x24 =>
  ((stI g20 p22 0 x24 v2).bind fun g26 =>
  (if v3 = 0 then ((getI g26 v0 4 9).bind fun x29 =>
  ((fX4_slotOf g26 v0 x29).bind fun q31 =>
  ((getR q31.2 v0 4 14).bind fun p33 =>
  ((ldI q31.2 p33 0 q31.1).bind fun x35 =>
  (if x35 = 0 then ((getI q31.2 v0 4 9).bind fun x38 =>
  (if x38 < (1200 : Int32) then ((getI q31.2 v0 4 9).bind fun x41 =>
  ((putV q31.2 v0 4 9 (.int (x41 + (1 : Int32)))).bind fun g43 =>
  ((getR g43 v0 4 14).bind fun p45 =>
  ((getI g43 v0 4 9).bind fun x47 =>
  ((stI g43 p45 0 q31.1 x47).bind fun g49 =>
  (some ((0 : Int32), g49))))))) else
  (some ((2 : Int32), q31.2)))) else
  (some ((0 : Int32), q31.2))))))) else
  (some ((1 : Int32), g26))))))))))))))) else
  ((getR g v0 4 5).bind fun p51 =>
  ((getR g v0 4 7).bind fun p53 =>
  ((ldI g p53 0 v4).bind fun x55 =>
  ((getR g v0 4 11).bind fun p57 =>
  ((ldI g p57 0 v1).bind fun x59 =>
  ((ldI g p51 0 ((((x55 * (3 : Int32)) + x59) * (78 : Int32)) + v2)).bind fun x61 =>
  (if x61 = (-1 : Int32) then (some ((0 : Int32), g)) else
  ((getR g v0 4 10).bind fun p64 =>
  ((ldI g p64 0 ((v1 * (8 : Int32)) + v4)).bind fun x66 =>
  ((fX4_moved g x66 x61).bind fun q68 =>
  ((getR q68.2 v0 4 10).bind fun p70 =>
  ((getI q68.2 v0 4 9).bind fun x72 =>
  ((stI q68.2 p70 0 ((x72 * (8 : Int32)) + v4) q68.1).bind fun g74 =>
  (if v3 = 0 then (fX4_arrive_101 (fX4_arrive_5 n) g74 v0 v1 v2 v4) else
  (if q68.1 = (9586980 : Int32) then (fX4_arrive_102 (fX4_arrive_5 n) g74 v0 v1 v2 v4 (1 : Int32)) else
  (fX4_arrive_101 (fX4_arrive_5 n) g74 v0 v1 v2 v4)))))))))))))))))
set_option maxHeartbeats 4000000 in
set_option maxRecDepth 100000 in
theorem bX4_arrive_5 {K : HK} {E : HE} {r : Int32} {g' : PH}  (C : VC K E 7 cX4_arrive RX4 (some .int))  : ∀ (n : Nat) (g : PH) (v0 : Nat) (v1 : Int32) (v2 : Int32) (v3 : Int32) (v4 : Int32), fX4_arrive_5  n g v0 v1 v2 v3 v4 = some (r, g') → V K E (hRm 2 47 0 0) 7 (hZ K E (some (.int r)) g' 0 0) 0 0 (kS K) g 5 [(0, .ref v0), (1, .int v1), (2, .int v2), (3, .int v3), (4, .int v4)] [] := by
  intro n
  induction n with
  | zero =>
    intro g v0 v1 v2 v3 v4 hf
    rw [fX4_arrive_5] at hf
    cases hf
  | succ n ih =>
    intro g v0 v1 v2 v3 v4 hf
    rw [fX4_arrive_5] at hf
    refine V.iload (pc := 5) C dX4_arrive_5 4 rfl ?_
    refine V.aload_n (pc := 7) C dX4_arrive_7 0 rfl ?_
    replace hf := ob_some hf
    obtain ⟨x1, h2, hf⟩ := hf
    refine V.getI (pc := 8) C kX4 (k := 8) (by decide) wd_701 h2 dX4_arrive_8 ?_
    refine V.icmp_ge (pc := 11) (t := 109) C dX4_arrive_11 (by decide) (fun c3 => ?_) (fun c3 => ?_)
    · replace hf := ite_t c3 hf
      refine V.aload_n (pc := 109) C dX4_arrive_109 0 rfl ?_
      replace hf := ob_some hf
      obtain ⟨p4, h5, hf⟩ := hf
      refine V.getR (pc := 110) C kX4 (k := 11) (by decide) wd_704 h5 dX4_arrive_110 ?_
      refine V.aload_n (pc := 113) C dX4_arrive_113 0 rfl ?_
      replace hf := ob_some hf
      obtain ⟨x6, h7, hf⟩ := hf
      refine V.getI (pc := 114) C kX4 (k := 9) (by decide) wd_702 h7 dX4_arrive_114 ?_
      refine V.aload_n (pc := 117) C dX4_arrive_117 0 rfl ?_
      refine V.aload_n (pc := 118) C dX4_arrive_118 0 rfl ?_
      replace hf := ob_some hf
      obtain ⟨p8, h9, hf⟩ := hf
      refine V.getR (pc := 119) C kX4 (k := 11) (by decide) wd_704 h9 dX4_arrive_119 ?_
      refine V.iload_n (pc := 122) C dX4_arrive_122 1 rfl ?_
      replace hf := ob_some hf
      obtain ⟨x10, h11, hf⟩ := hf
      refine V.iald (pc := 123) C h11 dX4_arrive_123 ?_
      refine V.iload_n (pc := 124) C dX4_arrive_124 2 rfl ?_
      replace hf := ob_some hf
      obtain ⟨q12, h13, hf⟩ := hf
      refine V.callV0i (pc := 125) C hyX4_soundBehind wd_794 (mX4_soundBehind (r := q12.1) (g' := q12.2) K.2.1 E (kS K) h13) rfl rfl rfl (oX4_soundBehind h13) ⟨Nat.le_of_ble_eq_true rfl, Nat.le_of_ble_eq_true rfl⟩ (Nat.le_of_ble_eq_true rfl) dX4_arrive_125 ⟨Nat.zero_le _, Nat.zero_le _⟩ rfl ?_
      replace hf := ob_some hf
      obtain ⟨g14, h15, hf⟩ := hf
      refine V.iast (pc := 128) C h15 dX4_arrive_128 ?_
      refine V.aload_n (pc := 129) C dX4_arrive_129 0 rfl ?_
      replace hf := ob_some hf
      obtain ⟨p16, h17, hf⟩ := hf
      refine V.getR (pc := 130) C kX4 (k := 12) (by decide) wd_705 h17 dX4_arrive_130 ?_
      refine V.aload_n (pc := 133) C dX4_arrive_133 0 rfl ?_
      replace hf := ob_some hf
      obtain ⟨x18, h19, hf⟩ := hf
      refine V.getI (pc := 134) C kX4 (k := 9) (by decide) wd_702 h19 dX4_arrive_134 ?_
      refine V.iload_n (pc := 137) C dX4_arrive_137 1 rfl ?_
      replace hf := ob_some hf
      obtain ⟨g20, h21, hf⟩ := hf
      refine V.iast (pc := 138) C h21 dX4_arrive_138 ?_
      refine V.aload_n (pc := 139) C dX4_arrive_139 0 rfl ?_
      replace hf := ob_some hf
      obtain ⟨p22, h23, hf⟩ := hf
      refine V.getR (pc := 140) C kX4 (k := 13) (by decide) wd_706 h23 dX4_arrive_140 ?_
      refine V.aload_n (pc := 143) C dX4_arrive_143 0 rfl ?_
      replace hf := ob_some hf
      obtain ⟨x24, h25, hf⟩ := hf
      refine V.getI (pc := 144) C kX4 (k := 9) (by decide) wd_702 h25 dX4_arrive_144 ?_
      refine V.iload_n (pc := 147) C dX4_arrive_147 2 rfl ?_
      replace hf := ob_some hf
      obtain ⟨g26, h27, hf⟩ := hf
      refine V.iast (pc := 148) C h27 dX4_arrive_148 ?_
      refine V.iload_n (pc := 149) C dX4_arrive_149 3 rfl ?_
      refine V.if_eq (pc := 150) (t := 155) C dX4_arrive_150 (by decide) (fun c28 => ?_) (fun c28 => ?_)
      · replace hf := ite_t c28 hf
        refine V.aload_n (pc := 155) C dX4_arrive_155 0 rfl ?_
        refine V.aload_n (pc := 156) C dX4_arrive_156 0 rfl ?_
        replace hf := ob_some hf
        obtain ⟨x29, h30, hf⟩ := hf
        refine V.getI (pc := 157) C kX4 (k := 9) (by decide) wd_702 h30 dX4_arrive_157 ?_
        replace hf := ob_some hf
        obtain ⟨q31, h32, hf⟩ := hf
        refine V.callV0i (pc := 160) C hyX4_slotOf wd_769 (mX4_slotOf (r := q31.1) (g' := q31.2) K.2.1 E (kS K) h32) rfl rfl rfl (oX4_slotOf h32) ⟨Nat.le_of_ble_eq_true rfl, Nat.le_of_ble_eq_true rfl⟩ (Nat.le_of_ble_eq_true rfl) dX4_arrive_160 ⟨Nat.zero_le _, Nat.zero_le _⟩ rfl ?_
        refine V.istore (pc := 163) (L' := [(4, .int q31.1), (0, .ref v0), (1, .int v1), (2, .int v2), (3, .int v3)]) C dX4_arrive_163 (by decide) rfl ?_
        refine V.aload_n (pc := 165) C dX4_arrive_165 1 rfl ?_
        replace hf := ob_some hf
        obtain ⟨p33, h34, hf⟩ := hf
        refine V.getR (pc := 166) C kX4 (k := 14) (by decide) wd_707 h34 dX4_arrive_166 ?_
        refine V.iload (pc := 169) C dX4_arrive_169 0 rfl ?_
        replace hf := ob_some hf
        obtain ⟨x35, h36, hf⟩ := hf
        refine V.iald (pc := 171) C h36 dX4_arrive_171 ?_
        refine V.if_eq (pc := 172) (t := 177) C dX4_arrive_172 (by decide) (fun c37 => ?_) (fun c37 => ?_)
        · replace hf := ite_t c37 hf
          refine V.aload_n (pc := 177) C dX4_arrive_177 1 rfl ?_
          replace hf := ob_some hf
          obtain ⟨x38, h39, hf⟩ := hf
          refine V.getI (pc := 178) C kX4 (k := 9) (by decide) wd_702 h39 dX4_arrive_178 ?_
          refine V.sipush (pc := 181) C dX4_arrive_181 (v := (1200 : Int32)) (by decide) ?_
          refine V.icmp_lt (pc := 184) (t := 189) C dX4_arrive_184 (by decide) (fun c40 => ?_) (fun c40 => ?_)
          · replace hf := ite_t c40 hf
            refine V.aload_n (pc := 189) C dX4_arrive_189 1 rfl ?_
            refine V.dup (pc := 190) C dX4_arrive_190 rfl ?_
            replace hf := ob_some hf
            obtain ⟨x41, h42, hf⟩ := hf
            refine V.getI (pc := 191) C kX4 (k := 9) (by decide) wd_702 h42 dX4_arrive_191 ?_
            refine V.iconst (pc := 194) C dX4_arrive_194 (v := (1 : Int32)) (by decide) ?_
            refine V.iadd (pc := 195) C dX4_arrive_195 ?_
            replace hf := ob_some hf
            obtain ⟨g43, h44, hf⟩ := hf
            refine V.putX (pc := 196) C kX4 (k := 9) (by decide) wd_702 rfl rfl rfl h44 dX4_arrive_196 ?_
            refine V.aload_n (pc := 199) C dX4_arrive_199 1 rfl ?_
            replace hf := ob_some hf
            obtain ⟨p45, h46, hf⟩ := hf
            refine V.getR (pc := 200) C kX4 (k := 14) (by decide) wd_707 h46 dX4_arrive_200 ?_
            refine V.iload (pc := 203) C dX4_arrive_203 0 rfl ?_
            refine V.aload_n (pc := 205) C dX4_arrive_205 1 rfl ?_
            replace hf := ob_some hf
            obtain ⟨x47, h48, hf⟩ := hf
            refine V.getI (pc := 206) C kX4 (k := 9) (by decide) wd_702 h48 dX4_arrive_206 ?_
            replace hf := ob_some hf
            obtain ⟨g49, h50, hf⟩ := hf
            refine V.iast (pc := 209) C h50 dX4_arrive_209 ?_
            refine V.iconst (pc := 210) C dX4_arrive_210 (v := (0 : Int32)) (by decide) ?_
            obtain ⟨f1, f2⟩ := fin2 hf
            clear hf
            subst f1
            subst f2
            exact V.iret (pc := 211) C rfl dX4_arrive_211
          replace hf := ite_f c40 hf
          refine V.iconst (pc := 187) C dX4_arrive_187 (v := (2 : Int32)) (by decide) ?_
          obtain ⟨f1, f2⟩ := fin2 hf
          clear hf
          subst f1
          subst f2
          exact V.iret (pc := 188) C rfl dX4_arrive_188
        replace hf := ite_f c37 hf
        refine V.iconst (pc := 175) C dX4_arrive_175 (v := (0 : Int32)) (by decide) ?_
        obtain ⟨f1, f2⟩ := fin2 hf
        clear hf
        subst f1
        subst f2
        exact V.iret (pc := 176) C rfl dX4_arrive_176
      replace hf := ite_f c28 hf
      refine V.iconst (pc := 153) C dX4_arrive_153 (v := (1 : Int32)) (by decide) ?_
      obtain ⟨f1, f2⟩ := fin2 hf
      clear hf
      subst f1
      subst f2
      exact V.iret (pc := 154) C rfl dX4_arrive_154
    replace hf := ite_f c3 hf
    refine V.aload_n (pc := 14) C dX4_arrive_14 0 rfl ?_
    replace hf := ob_some hf
    obtain ⟨p51, h52, hf⟩ := hf
    refine V.getR (pc := 15) C kX4 (k := 5) (by decide) wd_698 h52 dX4_arrive_15 ?_
    refine V.aload_n (pc := 18) C dX4_arrive_18 0 rfl ?_
    replace hf := ob_some hf
    obtain ⟨p53, h54, hf⟩ := hf
    refine V.getR (pc := 19) C kX4 (k := 7) (by decide) wd_700 h54 dX4_arrive_19 ?_
    refine V.iload (pc := 22) C dX4_arrive_22 4 rfl ?_
    replace hf := ob_some hf
    obtain ⟨x55, h56, hf⟩ := hf
    refine V.iald (pc := 24) C h56 dX4_arrive_24 ?_
    refine V.iconst (pc := 25) C dX4_arrive_25 (v := (3 : Int32)) (by decide) ?_
    refine V.imul (pc := 26) C dX4_arrive_26 ?_
    refine V.aload_n (pc := 27) C dX4_arrive_27 0 rfl ?_
    replace hf := ob_some hf
    obtain ⟨p57, h58, hf⟩ := hf
    refine V.getR (pc := 28) C kX4 (k := 11) (by decide) wd_704 h58 dX4_arrive_28 ?_
    refine V.iload_n (pc := 31) C dX4_arrive_31 1 rfl ?_
    replace hf := ob_some hf
    obtain ⟨x59, h60, hf⟩ := hf
    refine V.iald (pc := 32) C h60 dX4_arrive_32 ?_
    refine V.iadd (pc := 33) C dX4_arrive_33 ?_
    refine V.bipush (pc := 34) C dX4_arrive_34 (v := (78 : Int32)) (by decide) ?_
    refine V.imul (pc := 36) C dX4_arrive_36 ?_
    refine V.iload_n (pc := 37) C dX4_arrive_37 2 rfl ?_
    refine V.iadd (pc := 38) C dX4_arrive_38 ?_
    replace hf := ob_some hf
    obtain ⟨x61, h62, hf⟩ := hf
    refine V.iald (pc := 39) C h62 dX4_arrive_39 ?_
    refine V.istore (pc := 40) (L' := [(5, .int x61), (0, .ref v0), (1, .int v1), (2, .int v2), (3, .int v3), (4, .int v4)]) C dX4_arrive_40 (by decide) rfl ?_
    refine V.iload (pc := 42) C dX4_arrive_42 0 rfl ?_
    refine V.iconst (pc := 44) C dX4_arrive_44 (v := (-1 : Int32)) (by decide) ?_
    refine V.icmp_ne (pc := 45) (t := 50) C dX4_arrive_45 (by decide) (fun c63 => ?_) (fun c63 => ?_)
    · replace hf := ite_f c63 hf
      refine V.aload_n (pc := 50) C dX4_arrive_50 1 rfl ?_
      replace hf := ob_some hf
      obtain ⟨p64, h65, hf⟩ := hf
      refine V.getR (pc := 51) C kX4 (k := 10) (by decide) wd_703 h65 dX4_arrive_51 ?_
      refine V.iload_n (pc := 54) C dX4_arrive_54 2 rfl ?_
      refine V.bipush (pc := 55) C dX4_arrive_55 (v := (8 : Int32)) (by decide) ?_
      refine V.imul (pc := 57) C dX4_arrive_57 ?_
      refine V.iload (pc := 58) C dX4_arrive_58 5 rfl ?_
      refine V.iadd (pc := 60) C dX4_arrive_60 ?_
      replace hf := ob_some hf
      obtain ⟨x66, h67, hf⟩ := hf
      refine V.iald (pc := 61) C h67 dX4_arrive_61 ?_
      refine V.iload (pc := 62) C dX4_arrive_62 0 rfl ?_
      replace hf := ob_some hf
      obtain ⟨q68, h69, hf⟩ := hf
      refine V.callS0i (pc := 64) C hyX4_moved wd_790 (mX4_moved (r := q68.1) (g' := q68.2) K.2.1 E (kS K) h69) rfl ⟨Nat.le_of_ble_eq_true rfl, Nat.le_of_ble_eq_true rfl⟩ (Nat.le_of_ble_eq_true rfl) dX4_arrive_64 ⟨Nat.zero_le _, Nat.zero_le _⟩ rfl ?_
      refine V.istore (pc := 67) (L' := [(6, .int q68.1), (5, .int x61), (0, .ref v0), (1, .int v1), (2, .int v2), (3, .int v3), (4, .int v4)]) C dX4_arrive_67 (by decide) rfl ?_
      refine V.aload_n (pc := 69) C dX4_arrive_69 2 rfl ?_
      replace hf := ob_some hf
      obtain ⟨p70, h71, hf⟩ := hf
      refine V.getR (pc := 70) C kX4 (k := 10) (by decide) wd_703 h71 dX4_arrive_70 ?_
      refine V.aload_n (pc := 73) C dX4_arrive_73 2 rfl ?_
      replace hf := ob_some hf
      obtain ⟨x72, h73, hf⟩ := hf
      refine V.getI (pc := 74) C kX4 (k := 9) (by decide) wd_702 h73 dX4_arrive_74 ?_
      refine V.bipush (pc := 77) C dX4_arrive_77 (v := (8 : Int32)) (by decide) ?_
      refine V.imul (pc := 79) C dX4_arrive_79 ?_
      refine V.iload (pc := 80) C dX4_arrive_80 6 rfl ?_
      refine V.iadd (pc := 82) C dX4_arrive_82 ?_
      refine V.iload (pc := 83) C dX4_arrive_83 0 rfl ?_
      replace hf := ob_some hf
      obtain ⟨g74, h75, hf⟩ := hf
      refine V.iast (pc := 85) C h75 dX4_arrive_85 ?_
      refine V.iload_n (pc := 86) C dX4_arrive_86 5 rfl ?_
      refine V.if_eq (pc := 87) (t := 101) C dX4_arrive_87 (by decide) (fun c76 => ?_) (fun c76 => ?_)
      · replace hf := ite_t c76 hf
        refine V.sub (L' := [(0, .ref v0), (1, .int v1), (2, .int v2), (4, .int v4)]) [2, 3, 4, 6] rfl ?_
        exact bX4_arrive_101 C ih hf
      replace hf := ite_f c76 hf
      refine V.iload (pc := 90) C dX4_arrive_90 0 rfl ?_
      refine V.ldc (pc := 92) C wd_793 dX4_arrive_92 ?_
      refine V.icmp_ne (pc := 94) (t := 101) C dX4_arrive_94 (by decide) (fun c77 => ?_) (fun c77 => ?_)
      · replace hf := ite_f c77 hf
        refine V.sub (L' := [(0, .ref v0), (1, .int v1), (2, .int v2), (4, .int v4)]) [2, 3, 4, 6] rfl ?_
        exact bX4_arrive_101 C ih hf
      replace hf := ite_t c77 hf
      refine V.iconst (pc := 97) C dX4_arrive_97 (v := (1 : Int32)) (by decide) ?_
      refine V.goto (pc := 98) (t := 102) C dX4_arrive_98 (by decide) ?_
      refine V.sub (L' := [(0, .ref v0), (1, .int v1), (2, .int v2), (4, .int v4)]) [2, 3, 4, 6] rfl ?_
      exact bX4_arrive_102 C ih hf
    replace hf := ite_t c63 hf
    refine V.iconst (pc := 48) C dX4_arrive_48 (v := (0 : Int32)) (by decide) ?_
    obtain ⟨f1, f2⟩ := fin2 hf
    clear hf
    subst f1
    subst f2
    exact V.iret (pc := 49) C rfl dX4_arrive_49
def fX4_arrive (g : PH) (a0 : Nat) (a1 : Int32) (a2 : Int32) : Option (Int32 × PH) :=
  okb (isO g a0 4) (fX4_arrive_5 FUEL g a0 a1 a2 (1 : Int32) (0 : Int32))
theorem oX4_arrive {g : PH} {a0 : Nat} {a1 : Int32} {a2 : Int32} {q : (Int32 × PH)} (h : fX4_arrive g a0 a1 a2 = some q) : isO g a0 4 = true := by unfold fX4_arrive at h; exact (okb_some h).1
theorem hyX4_arrive : hMet yX4_arrive RX4 cX4_arrive 7 (some .int) 2 := ⟨wd_789, wd_788, ws_36, wd_15, rfl, by decide +kernel, by decide +kernel, by decide +kernel⟩
set_option maxHeartbeats 4000000 in
set_option maxRecDepth 100000 in
theorem mX4_arrive (l : Launch) (E : HE) (sz : Nat) {g g' : PH} {a0 : Nat} {a1 : Int32} {a2 : Int32} {r : Int32} (hf : fX4_arrive g a0 a1 a2 = some (r, g')) : hM l E yX4_arrive cX4_arrive 7 (some .int) 2 47 0 0 sz g [.ref a0, .int a1, .int a2] (some (.int r)) g' := by
  refine hM.of (by decide) (Nat.le_of_ble_eq_true rfl) (fun K hl C hin hsz => ?_)
  subst hl
  subst hsz
  have C : VC K E 7 cX4_arrive RX4 (some .int) := C
  unfold fX4_arrive at hf
  replace hf := okb_some hf
  obtain ⟨ho, hf⟩ := hf
  refine V.start (L' := [(0, .ref a0), (1, .int a1), (2, .int a2)]) rfl ?_
  refine V.iconst (pc := 0) C dX4_arrive_0 (v := (1 : Int32)) (by decide) ?_
  refine V.istore_n (pc := 1) (L' := [(3, .int (1 : Int32)), (0, .ref a0), (1, .int a1), (2, .int a2)]) C dX4_arrive_1 (by decide) rfl ?_
  refine V.iconst (pc := 2) C dX4_arrive_2 (v := (0 : Int32)) (by decide) ?_
  refine V.istore (pc := 3) (L' := [(4, .int (0 : Int32)), (3, .int (1 : Int32)), (0, .ref a0), (1, .int a1), (2, .int a2)]) C dX4_arrive_3 (by decide) rfl ?_
  refine V.sub (L' := [(0, .ref a0), (1, .int a1), (2, .int a2), (3, .int (1 : Int32)), (4, .int (0 : Int32))]) [2, 3, 4, 1, 0] rfl ?_
  exact bX4_arrive_5 C  _ _ _ _ _ _ _ hf
theorem dX4_expand_0 : decode cX4_expand 0 = .ok (.aload_n 0, 1) := by decide +kernel
theorem dX4_expand_1 : decode cX4_expand 1 = .ok (.getfield 60, 3) := by decide +kernel
theorem dX4_expand_4 : decode cX4_expand 4 = .ok (.iload_n 1, 1) := by decide +kernel
theorem dX4_expand_5 : decode cX4_expand 5 = .ok (.iaload, 1) := by decide +kernel
theorem dX4_expand_6 : decode cX4_expand 6 = .ok (.istore_n 3, 1) := by decide +kernel
theorem dX4_expand_7 : decode cX4_expand 7 = .ok (.iload_n 3, 1) := by decide +kernel
theorem dX4_expand_8 : decode cX4_expand 8 = .ok (.aload_n 0, 1) := by decide +kernel
theorem dX4_expand_9 : decode cX4_expand 9 = .ok (.getfield 60, 3) := by decide +kernel
theorem dX4_expand_12 : decode cX4_expand 12 = .ok (.iload_n 1, 1) := by decide +kernel
theorem dX4_expand_13 : decode cX4_expand 13 = .ok (.iconst 1, 1) := by decide +kernel
theorem dX4_expand_14 : decode cX4_expand 14 = .ok (.iadd, 1) := by decide +kernel
theorem dX4_expand_15 : decode cX4_expand 15 = .ok (.iaload, 1) := by decide +kernel
theorem dX4_expand_16 : decode cX4_expand 16 = .ok (.if_icmp .ge 51, 3) := by decide +kernel
theorem dX4_expand_19 : decode cX4_expand 19 = .ok (.getstatic 63, 3) := by decide +kernel
theorem dX4_expand_22 : decode cX4_expand 22 = .ok (.iload_n 2, 1) := by decide +kernel
theorem dX4_expand_23 : decode cX4_expand 23 = .ok (.iaload, 1) := by decide +kernel
theorem dX4_expand_24 : decode cX4_expand 24 = .ok (.istore 4, 2) := by decide +kernel
theorem dX4_expand_26 : decode cX4_expand 26 = .ok (.iload 4, 2) := by decide +kernel
theorem dX4_expand_28 : decode cX4_expand 28 = .ok (.getstatic 63, 3) := by decide +kernel
theorem dX4_expand_31 : decode cX4_expand 31 = .ok (.iload_n 2, 1) := by decide +kernel
theorem dX4_expand_32 : decode cX4_expand 32 = .ok (.iconst 1, 1) := by decide +kernel
theorem dX4_expand_33 : decode cX4_expand 33 = .ok (.iadd, 1) := by decide +kernel
theorem dX4_expand_34 : decode cX4_expand 34 = .ok (.iaload, 1) := by decide +kernel
theorem dX4_expand_35 : decode cX4_expand 35 = .ok (.if_icmp .ge 26, 3) := by decide +kernel
theorem dX4_expand_38 : decode cX4_expand 38 = .ok (.aload_n 0, 1) := by decide +kernel
theorem dX4_expand_39 : decode cX4_expand 39 = .ok (.iload_n 3, 1) := by decide +kernel
theorem dX4_expand_40 : decode cX4_expand 40 = .ok (.iload 4, 2) := by decide +kernel
theorem dX4_expand_42 : decode cX4_expand 42 = .ok (.invokevirtual 117, 3) := by decide +kernel
theorem dX4_expand_45 : decode cX4_expand 45 = .ok (.istore 5, 2) := by decide +kernel
theorem dX4_expand_47 : decode cX4_expand 47 = .ok (.iload 5, 2) := by decide +kernel
theorem dX4_expand_49 : decode cX4_expand 49 = .ok (.ifCond .eq 6, 3) := by decide +kernel
theorem dX4_expand_52 : decode cX4_expand 52 = .ok (.iload 5, 2) := by decide +kernel
theorem dX4_expand_54 : decode cX4_expand 54 = .ok (.ireturn, 1) := by decide +kernel
theorem dX4_expand_55 : decode cX4_expand 55 = .ok (.iinc 4 1, 3) := by decide +kernel
theorem dX4_expand_58 : decode cX4_expand 58 = .ok (.goto (-32), 3) := by decide +kernel
theorem dX4_expand_61 : decode cX4_expand 61 = .ok (.iinc 3 1, 3) := by decide +kernel
theorem dX4_expand_64 : decode cX4_expand 64 = .ok (.goto (-57), 3) := by decide +kernel
theorem dX4_expand_67 : decode cX4_expand 67 = .ok (.iconst 0, 1) := by decide +kernel
theorem dX4_expand_68 : decode cX4_expand 68 = .ok (.ireturn, 1) := by decide +kernel
def fX4_expand_26 (k7 : PH → Nat → Int32 → Int32 → Int32 → Option (Int32 × PH)) : Nat → PH → Nat → Int32 → Int32 → Int32 → Int32 → Option (Int32 × PH)
  | 0, _, _, _, _, _, _ => none
  | n + 1, g, v0, v1, v2, v3, v4 =>
  okb (inb (v2 + (1 : Int32)) (staB 0).length) (if ((staB 0).getD (v2 + (1 : Int32)).toNatClampNeg 0) ≤ v4 then (k7 g v0 v1 v2 (v3 + (1 : Int32))) else
  ((fX4_arrive g v0 v3 v4).bind fun q3 =>
  (if q3.1 = 0 then (fX4_expand_26 k7 n q3.2 v0 v1 v2 v3 (v4 + (1 : Int32))) else
  (some (q3.1, q3.2)))))
set_option maxHeartbeats 4000000 in
set_option maxRecDepth 100000 in
theorem bX4_expand_26 {K : HK} {E : HE} {r : Int32} {g' : PH} {k7 : PH → Nat → Int32 → Int32 → Int32 → Option (Int32 × PH)} (C : VC K E 6 cX4_expand RX4 (some .int)) (hk7 : ∀ (g : PH) (v0 : Nat) (v1 : Int32) (v2 : Int32) (v3 : Int32), k7 g v0 v1 v2 v3 = some (r, g') → V K E (hRm 3 73 0 0) 6 (hZ K E (some (.int r)) g' 0 0) 0 0 (kS K) g 7 [(0, .ref v0), (1, .int v1), (2, .int v2), (3, .int v3)] []) : ∀ (n : Nat) (g : PH) (v0 : Nat) (v1 : Int32) (v2 : Int32) (v3 : Int32) (v4 : Int32), fX4_expand_26 k7 n g v0 v1 v2 v3 v4 = some (r, g') → V K E (hRm 3 73 0 0) 6 (hZ K E (some (.int r)) g' 0 0) 0 0 (kS K) g 26 [(0, .ref v0), (1, .int v1), (2, .int v2), (3, .int v3), (4, .int v4)] [] := by
  intro n
  induction n with
  | zero =>
    intro g v0 v1 v2 v3 v4 hf
    rw [fX4_expand_26] at hf
    cases hf
  | succ n ih =>
    intro g v0 v1 v2 v3 v4 hf
    rw [fX4_expand_26] at hf
    refine V.iload (pc := 26) C dX4_expand_26 4 rfl ?_
    refine V.gSta0 (pc := 28) C wd_689 dX4_expand_28 ?_
    refine V.iload_n (pc := 31) C dX4_expand_31 2 rfl ?_
    refine V.iconst (pc := 32) C dX4_expand_32 (v := (1 : Int32)) (by decide) ?_
    refine V.iadd (pc := 33) C dX4_expand_33 ?_
    replace hf := okb_some hf
    obtain ⟨h1, hf⟩ := hf
    refine V.taldT (pc := 34) C (by decide) h1 dX4_expand_34 ?_
    refine V.icmp_ge (pc := 35) (t := 61) C dX4_expand_35 (by decide) (fun c2 => ?_) (fun c2 => ?_)
    · replace hf := ite_t c2 hf
      refine V.iinc (pc := 61) (v := (v3 + (1 : Int32))) (L' := [(3, .int (v3 + (1 : Int32))), (0, .ref v0), (1, .int v1), (2, .int v2), (4, .int v4)]) C dX4_expand_61 3 rfl rfl (by decide) rfl ?_
      refine V.goto (pc := 64) (t := 7) C dX4_expand_64 (by decide) ?_
      refine V.sub (L' := [(0, .ref v0), (1, .int v1), (2, .int v2), (3, .int (v3 + (1 : Int32)))]) [1, 2, 3, 0] rfl ?_
      exact hk7 _ _ _ _ _ hf
    replace hf := ite_f c2 hf
    refine V.aload_n (pc := 38) C dX4_expand_38 0 rfl ?_
    refine V.iload_n (pc := 39) C dX4_expand_39 3 rfl ?_
    refine V.iload (pc := 40) C dX4_expand_40 4 rfl ?_
    replace hf := ob_some hf
    obtain ⟨q3, h4, hf⟩ := hf
    refine V.callV0i (pc := 42) C hyX4_arrive wd_786 (mX4_arrive (r := q3.1) (g' := q3.2) K.2.1 E (kS K) h4) rfl rfl rfl (oX4_arrive h4) ⟨Nat.le_of_ble_eq_true rfl, Nat.le_of_ble_eq_true rfl⟩ (Nat.le_of_ble_eq_true rfl) dX4_expand_42 ⟨Nat.zero_le _, Nat.zero_le _⟩ rfl ?_
    refine V.istore (pc := 45) (L' := [(5, .int q3.1), (0, .ref v0), (1, .int v1), (2, .int v2), (3, .int v3), (4, .int v4)]) C dX4_expand_45 (by decide) rfl ?_
    refine V.iload (pc := 47) C dX4_expand_47 0 rfl ?_
    refine V.if_eq (pc := 49) (t := 55) C dX4_expand_49 (by decide) (fun c5 => ?_) (fun c5 => ?_)
    · replace hf := ite_t c5 hf
      refine V.iinc (pc := 55) (v := (v4 + (1 : Int32))) (L' := [(4, .int (v4 + (1 : Int32))), (5, .int q3.1), (0, .ref v0), (1, .int v1), (2, .int v2), (3, .int v3)]) C dX4_expand_55 5 rfl rfl (by decide) rfl ?_
      refine V.goto (pc := 58) (t := 26) C dX4_expand_58 (by decide) ?_
      refine V.sub (L' := [(0, .ref v0), (1, .int v1), (2, .int v2), (3, .int v3), (4, .int (v4 + (1 : Int32)))]) [2, 3, 4, 5, 0] rfl ?_
      exact ih _ _ _ _ _ _ hf
    replace hf := ite_f c5 hf
    refine V.iload (pc := 52) C dX4_expand_52 0 rfl ?_
    obtain ⟨f1, f2⟩ := fin2 hf
    clear hf
    subst f1
    subst f2
    exact V.iret (pc := 54) C rfl dX4_expand_54
def fX4_expand_7  : Nat → PH → Nat → Int32 → Int32 → Int32 → Option (Int32 × PH)
  | 0, _, _, _, _, _ => none
  | n + 1, g, v0, v1, v2, v3 =>
  (getR g v0 4 15).bind fun p1 =>
  ((ldI g p1 0 (v1 + (1 : Int32))).bind fun x3 =>
  (if x3 ≤ v3 then (some ((0 : Int32), g)) else
  (okb (inb v2 (staB 0).length) (fX4_expand_26 (fX4_expand_7 n) FUEL g v0 v1 v2 v3 ((staB 0).getD v2.toNatClampNeg 0)))))
set_option maxHeartbeats 4000000 in
set_option maxRecDepth 100000 in
theorem bX4_expand_7 {K : HK} {E : HE} {r : Int32} {g' : PH}  (C : VC K E 6 cX4_expand RX4 (some .int))  : ∀ (n : Nat) (g : PH) (v0 : Nat) (v1 : Int32) (v2 : Int32) (v3 : Int32), fX4_expand_7  n g v0 v1 v2 v3 = some (r, g') → V K E (hRm 3 73 0 0) 6 (hZ K E (some (.int r)) g' 0 0) 0 0 (kS K) g 7 [(0, .ref v0), (1, .int v1), (2, .int v2), (3, .int v3)] [] := by
  intro n
  induction n with
  | zero =>
    intro g v0 v1 v2 v3 hf
    rw [fX4_expand_7] at hf
    cases hf
  | succ n ih =>
    intro g v0 v1 v2 v3 hf
    rw [fX4_expand_7] at hf
    refine V.iload_n (pc := 7) C dX4_expand_7 3 rfl ?_
    refine V.aload_n (pc := 8) C dX4_expand_8 0 rfl ?_
    replace hf := ob_some hf
    obtain ⟨p1, h2, hf⟩ := hf
    refine V.getR (pc := 9) C kX4 (k := 15) (by decide) wd_708 h2 dX4_expand_9 ?_
    refine V.iload_n (pc := 12) C dX4_expand_12 1 rfl ?_
    refine V.iconst (pc := 13) C dX4_expand_13 (v := (1 : Int32)) (by decide) ?_
    refine V.iadd (pc := 14) C dX4_expand_14 ?_
    replace hf := ob_some hf
    obtain ⟨x3, h4, hf⟩ := hf
    refine V.iald (pc := 15) C h4 dX4_expand_15 ?_
    refine V.icmp_ge (pc := 16) (t := 67) C dX4_expand_16 (by decide) (fun c5 => ?_) (fun c5 => ?_)
    · replace hf := ite_t c5 hf
      refine V.iconst (pc := 67) C dX4_expand_67 (v := (0 : Int32)) (by decide) ?_
      obtain ⟨f1, f2⟩ := fin2 hf
      clear hf
      subst f1
      subst f2
      exact V.iret (pc := 68) C rfl dX4_expand_68
    replace hf := ite_f c5 hf
    refine V.gSta0 (pc := 19) C wd_689 dX4_expand_19 ?_
    refine V.iload_n (pc := 22) C dX4_expand_22 2 rfl ?_
    replace hf := okb_some hf
    obtain ⟨h6, hf⟩ := hf
    refine V.taldT (pc := 23) C (by decide) h6 dX4_expand_23 ?_
    refine V.istore (pc := 24) (L' := [(4, .int ((staB 0).getD v2.toNatClampNeg 0)), (0, .ref v0), (1, .int v1), (2, .int v2), (3, .int v3)]) C dX4_expand_24 (by decide) rfl ?_
    refine V.sub (L' := [(0, .ref v0), (1, .int v1), (2, .int v2), (3, .int v3), (4, .int ((staB 0).getD v2.toNatClampNeg 0))]) [1, 2, 3, 4, 0] rfl ?_
    exact bX4_expand_26 C ih _ _ _ _ _ _ _ hf
def fX4_expand (g : PH) (a0 : Nat) (a1 : Int32) (a2 : Int32) : Option (Int32 × PH) :=
  okb (isO g a0 4) ((getR g a0 4 15).bind fun p1 =>
  ((ldI g p1 0 a1).bind fun x3 =>
  (fX4_expand_7 FUEL g a0 a1 a2 x3)))
theorem oX4_expand {g : PH} {a0 : Nat} {a1 : Int32} {a2 : Int32} {q : (Int32 × PH)} (h : fX4_expand g a0 a1 a2 = some q) : isO g a0 4 = true := by unfold fX4_expand at h; exact (okb_some h).1
theorem hyX4_expand : hMet yX4_expand RX4 cX4_expand 6 (some .int) 2 := ⟨wd_785, wd_784, ws_35, wd_15, rfl, by decide +kernel, by decide +kernel, by decide +kernel⟩
set_option maxHeartbeats 4000000 in
set_option maxRecDepth 100000 in
theorem mX4_expand (l : Launch) (E : HE) (sz : Nat) {g g' : PH} {a0 : Nat} {a1 : Int32} {a2 : Int32} {r : Int32} (hf : fX4_expand g a0 a1 a2 = some (r, g')) : hM l E yX4_expand cX4_expand 6 (some .int) 3 73 0 0 sz g [.ref a0, .int a1, .int a2] (some (.int r)) g' := by
  refine hM.of (by decide) (Nat.le_of_ble_eq_true rfl) (fun K hl C hin hsz => ?_)
  subst hl
  subst hsz
  have C : VC K E 6 cX4_expand RX4 (some .int) := C
  unfold fX4_expand at hf
  replace hf := okb_some hf
  obtain ⟨ho, hf⟩ := hf
  refine V.start (L' := [(0, .ref a0), (1, .int a1), (2, .int a2)]) rfl ?_
  refine V.aload_n (pc := 0) C dX4_expand_0 0 rfl ?_
  replace hf := ob_some hf
  obtain ⟨p1, h2, hf⟩ := hf
  refine V.getR (pc := 1) C kX4 (k := 15) (by decide) wd_708 h2 dX4_expand_1 ?_
  refine V.iload_n (pc := 4) C dX4_expand_4 1 rfl ?_
  replace hf := ob_some hf
  obtain ⟨x3, h4, hf⟩ := hf
  refine V.iald (pc := 5) C h4 dX4_expand_5 ?_
  refine V.istore_n (pc := 6) (L' := [(3, .int x3), (0, .ref a0), (1, .int a1), (2, .int a2)]) C dX4_expand_6 (by decide) rfl ?_
  refine V.sub (L' := [(0, .ref a0), (1, .int a1), (2, .int a2), (3, .int x3)]) [1, 2, 3, 0] rfl ?_
  exact bX4_expand_7 C  _ _ _ _ _ _ hf
