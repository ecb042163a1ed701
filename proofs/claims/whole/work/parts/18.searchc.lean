theorem dX4_explore_0 : decode cX4_explore 0 = .ok (.aload_n 0, 1) := by decide +kernel
theorem dX4_explore_1 : decode cX4_explore 1 = .ok (.getfield 60, 3) := by decide +kernel
theorem dX4_explore_4 : decode cX4_explore 4 = .ok (.iconst 0, 1) := by decide +kernel
theorem dX4_explore_5 : decode cX4_explore 5 = .ok (.iconst 0, 1) := by decide +kernel
theorem dX4_explore_6 : decode cX4_explore 6 = .ok (.iastore, 1) := by decide +kernel
theorem dX4_explore_7 : decode cX4_explore 7 = .ok (.iconst 1, 1) := by decide +kernel
theorem dX4_explore_8 : decode cX4_explore 8 = .ok (.istore_n 1, 1) := by decide +kernel
theorem dX4_explore_9 : decode cX4_explore 9 = .ok (.iload_n 1, 1) := by decide +kernel
theorem dX4_explore_10 : decode cX4_explore 10 = .ok (.bipush 9, 2) := by decide +kernel
theorem dX4_explore_12 : decode cX4_explore 12 = .ok (.if_icmp .gt 62, 3) := by decide +kernel
theorem dX4_explore_15 : decode cX4_explore 15 = .ok (.aload_n 0, 1) := by decide +kernel
theorem dX4_explore_16 : decode cX4_explore 16 = .ok (.getfield 60, 3) := by decide +kernel
theorem dX4_explore_19 : decode cX4_explore 19 = .ok (.iload_n 1, 1) := by decide +kernel
theorem dX4_explore_20 : decode cX4_explore 20 = .ok (.aload_n 0, 1) := by decide +kernel
theorem dX4_explore_21 : decode cX4_explore 21 = .ok (.getfield 42, 3) := by decide +kernel
theorem dX4_explore_24 : decode cX4_explore 24 = .ok (.iastore, 1) := by decide +kernel
theorem dX4_explore_25 : decode cX4_explore 25 = .ok (.iconst 1, 1) := by decide +kernel
theorem dX4_explore_26 : decode cX4_explore 26 = .ok (.istore_n 2, 1) := by decide +kernel
theorem dX4_explore_27 : decode cX4_explore 27 = .ok (.iload_n 2, 1) := by decide +kernel
theorem dX4_explore_28 : decode cX4_explore 28 = .ok (.iconst 3, 1) := by decide +kernel
theorem dX4_explore_29 : decode cX4_explore 29 = .ok (.if_icmp .gt 39, 3) := by decide +kernel
theorem dX4_explore_32 : decode cX4_explore 32 = .ok (.iload_n 2, 1) := by decide +kernel
theorem dX4_explore_33 : decode cX4_explore 33 = .ok (.iload_n 1, 1) := by decide +kernel
theorem dX4_explore_34 : decode cX4_explore 34 = .ok (.if_icmp .gt 34, 3) := by decide +kernel
theorem dX4_explore_37 : decode cX4_explore 37 = .ok (.aload_n 0, 1) := by decide +kernel
theorem dX4_explore_38 : decode cX4_explore 38 = .ok (.iload_n 1, 1) := by decide +kernel
theorem dX4_explore_39 : decode cX4_explore 39 = .ok (.iload_n 2, 1) := by decide +kernel
theorem dX4_explore_40 : decode cX4_explore 40 = .ok (.isub, 1) := by decide +kernel
theorem dX4_explore_41 : decode cX4_explore 41 = .ok (.iload_n 2, 1) := by decide +kernel
theorem dX4_explore_42 : decode cX4_explore 42 = .ok (.invokevirtual 113, 3) := by decide +kernel
theorem dX4_explore_45 : decode cX4_explore 45 = .ok (.istore_n 3, 1) := by decide +kernel
theorem dX4_explore_46 : decode cX4_explore 46 = .ok (.iload_n 3, 1) := by decide +kernel
theorem dX4_explore_47 : decode cX4_explore 47 = .ok (.ifCond .eq 15, 3) := by decide +kernel
theorem dX4_explore_50 : decode cX4_explore 50 = .ok (.iload_n 3, 1) := by decide +kernel
theorem dX4_explore_51 : decode cX4_explore 51 = .ok (.iconst 1, 1) := by decide +kernel
theorem dX4_explore_52 : decode cX4_explore 52 = .ok (.if_icmp .ne 7, 3) := by decide +kernel
theorem dX4_explore_55 : decode cX4_explore 55 = .ok (.iload_n 1, 1) := by decide +kernel
theorem dX4_explore_56 : decode cX4_explore 56 = .ok (.goto 5, 3) := by decide +kernel
theorem dX4_explore_59 : decode cX4_explore 59 = .ok (.bipush (-3), 2) := by decide +kernel
theorem dX4_explore_61 : decode cX4_explore 61 = .ok (.ireturn, 1) := by decide +kernel
theorem dX4_explore_62 : decode cX4_explore 62 = .ok (.iinc 2 1, 3) := by decide +kernel
theorem dX4_explore_65 : decode cX4_explore 65 = .ok (.goto (-38), 3) := by decide +kernel
theorem dX4_explore_68 : decode cX4_explore 68 = .ok (.iinc 1 1, 3) := by decide +kernel
theorem dX4_explore_71 : decode cX4_explore 71 = .ok (.goto (-62), 3) := by decide +kernel
theorem dX4_explore_74 : decode cX4_explore 74 = .ok (.bipush (-2), 2) := by decide +kernel
theorem dX4_explore_76 : decode cX4_explore 76 = .ok (.ireturn, 1) := by decide +kernel
def fX4_explore_68 (k9 : PH → Nat → Int32 → Option (Int32 × PH)) (g : PH) (v0 : Nat) (v1 : Int32) : Option (Int32 × PH) :=
  k9 g v0 (v1 + (1 : Int32))
set_option maxHeartbeats 4000000 in
set_option maxRecDepth 100000 in
theorem bX4_explore_68 {K : HK} {E : HE} {r : Int32} {g' : PH} {k9 : PH → Nat → Int32 → Option (Int32 × PH)} (C : VC K E 4 cX4_explore RX4 (some .int)) (hk9 : ∀ (g : PH) (v0 : Nat) (v1 : Int32), k9 g v0 v1 = some (r, g') → V K E (hRm 4 98 0 0) 4 (hZ K E (some (.int r)) g' 0 0) 0 0 (kS K) g 9 [(0, .ref v0), (1, .int v1)] []) {g : PH} {v0 : Nat} {v1 : Int32} (hf : fX4_explore_68 k9 g v0 v1 = some (r, g')) : V K E (hRm 4 98 0 0) 4 (hZ K E (some (.int r)) g' 0 0) 0 0 (kS K) g 68 [(0, .ref v0), (1, .int v1)] [] := by
  unfold fX4_explore_68 at hf
  refine V.iinc (pc := 68) (v := (v1 + (1 : Int32))) (L' := [(1, .int (v1 + (1 : Int32))), (0, .ref v0)]) C dX4_explore_68 1 rfl rfl (by decide) rfl ?_
  refine V.goto (pc := 71) (t := 9) C dX4_explore_71 (by decide) ?_
  refine V.sub (L' := [(0, .ref v0), (1, .int (v1 + (1 : Int32)))]) [1, 0] rfl ?_
  exact hk9 _ _ _ hf
def fX4_explore_27 (k9 : PH → Nat → Int32 → Option (Int32 × PH)) : Nat → PH → Nat → Int32 → Int32 → Option (Int32 × PH)
  | 0, _, _, _, _ => none
  | n + 1, g, v0, v1, v2 =>
  if (3 : Int32) < v2 then (fX4_explore_68 (k9) g v0 v1) else
  (if v1 < v2 then (fX4_explore_68 (k9) g v0 v1) else
  ((fX4_expand g v0 (v1 - v2) v2).bind fun q3 =>
  (if q3.1 = 0 then (fX4_explore_27 k9 n q3.2 v0 v1 (v2 + (1 : Int32))) else
  (if q3.1 = (1 : Int32) then (some (v1, q3.2)) else
  (some ((-3 : Int32), q3.2))))))
set_option maxHeartbeats 4000000 in
set_option maxRecDepth 100000 in
theorem bX4_explore_27 {K : HK} {E : HE} {r : Int32} {g' : PH} {k9 : PH → Nat → Int32 → Option (Int32 × PH)} (C : VC K E 4 cX4_explore RX4 (some .int)) (hk9 : ∀ (g : PH) (v0 : Nat) (v1 : Int32), k9 g v0 v1 = some (r, g') → V K E (hRm 4 98 0 0) 4 (hZ K E (some (.int r)) g' 0 0) 0 0 (kS K) g 9 [(0, .ref v0), (1, .int v1)] []) : ∀ (n : Nat) (g : PH) (v0 : Nat) (v1 : Int32) (v2 : Int32), fX4_explore_27 k9 n g v0 v1 v2 = some (r, g') → V K E (hRm 4 98 0 0) 4 (hZ K E (some (.int r)) g' 0 0) 0 0 (kS K) g 27 [(0, .ref v0), (1, .int v1), (2, .int v2)] [] := by
  intro n
  induction n with
  | zero =>
    intro g v0 v1 v2 hf
    rw [fX4_explore_27] at hf
    cases hf
  | succ n ih =>
    intro g v0 v1 v2 hf
    rw [fX4_explore_27] at hf
    refine V.iload_n (pc := 27) C dX4_explore_27 2 rfl ?_
    refine V.iconst (pc := 28) C dX4_explore_28 (v := (3 : Int32)) (by decide) ?_
    refine V.icmp_gt (pc := 29) (t := 68) C dX4_explore_29 (by decide) (fun c1 => ?_) (fun c1 => ?_)
    · replace hf := ite_t c1 hf
      refine V.sub (L' := [(0, .ref v0), (1, .int v1)]) [0, 1] rfl ?_
      exact bX4_explore_68 C hk9 hf
    replace hf := ite_f c1 hf
    refine V.iload_n (pc := 32) C dX4_explore_32 2 rfl ?_
    refine V.iload_n (pc := 33) C dX4_explore_33 1 rfl ?_
    refine V.icmp_gt (pc := 34) (t := 68) C dX4_explore_34 (by decide) (fun c2 => ?_) (fun c2 => ?_)
    · replace hf := ite_t c2 hf
      refine V.sub (L' := [(0, .ref v0), (1, .int v1)]) [0, 1] rfl ?_
      exact bX4_explore_68 C hk9 hf
    replace hf := ite_f c2 hf
    refine V.aload_n (pc := 37) C dX4_explore_37 0 rfl ?_
    refine V.iload_n (pc := 38) C dX4_explore_38 1 rfl ?_
    refine V.iload_n (pc := 39) C dX4_explore_39 2 rfl ?_
    refine V.isub (pc := 40) C dX4_explore_40 ?_
    refine V.iload_n (pc := 41) C dX4_explore_41 2 rfl ?_
    replace hf := ob_some hf
    obtain ⟨q3, h4, hf⟩ := hf
    refine V.callV0i (pc := 42) C hyX4_expand wd_782 (mX4_expand (r := q3.1) (g' := q3.2) K.2.1 E (kS K) h4) rfl rfl rfl (oX4_expand h4) ⟨Nat.le_of_ble_eq_true rfl, Nat.le_of_ble_eq_true rfl⟩ (Nat.le_of_ble_eq_true rfl) dX4_explore_42 ⟨Nat.zero_le _, Nat.zero_le _⟩ rfl ?_
    refine V.istore_n (pc := 45) (L' := [(3, .int q3.1), (0, .ref v0), (1, .int v1), (2, .int v2)]) C dX4_explore_45 (by decide) rfl ?_
    refine V.iload_n (pc := 46) C dX4_explore_46 0 rfl ?_
    refine V.if_eq (pc := 47) (t := 62) C dX4_explore_47 (by decide) (fun c5 => ?_) (fun c5 => ?_)
    · replace hf := ite_t c5 hf
      refine V.iinc (pc := 62) (v := (v2 + (1 : Int32))) (L' := [(2, .int (v2 + (1 : Int32))), (3, .int q3.1), (0, .ref v0), (1, .int v1)]) C dX4_explore_62 3 rfl rfl (by decide) rfl ?_
      refine V.goto (pc := 65) (t := 27) C dX4_explore_65 (by decide) ?_
      refine V.sub (L' := [(0, .ref v0), (1, .int v1), (2, .int (v2 + (1 : Int32)))]) [2, 3, 0] rfl ?_
      exact ih _ _ _ _ hf
    replace hf := ite_f c5 hf
    refine V.iload_n (pc := 50) C dX4_explore_50 0 rfl ?_
    refine V.iconst (pc := 51) C dX4_explore_51 (v := (1 : Int32)) (by decide) ?_
    refine V.icmp_ne (pc := 52) (t := 59) C dX4_explore_52 (by decide) (fun c6 => ?_) (fun c6 => ?_)
    · replace hf := ite_f c6 hf
      refine V.bipush (pc := 59) C dX4_explore_59 (v := (-3 : Int32)) (by decide) ?_
      obtain ⟨f1, f2⟩ := fin2 hf
      clear hf
      subst f1
      subst f2
      exact V.iret (pc := 61) C rfl dX4_explore_61
    replace hf := ite_t c6 hf
    refine V.iload_n (pc := 55) C dX4_explore_55 2 rfl ?_
    refine V.goto (pc := 56) (t := 61) C dX4_explore_56 (by decide) ?_
    obtain ⟨f1, f2⟩ := fin2 hf
    clear hf
    subst f1
    subst f2
    exact V.iret (pc := 61) C rfl dX4_explore_61
def fX4_explore_9  : Nat → PH → Nat → Int32 → Option (Int32 × PH)
  | 0, _, _, _ => none
  | n + 1, g, v0, v1 =>
  if (9 : Int32) < v1 then (some ((-2 : Int32), g)) else
  ((getR g v0 4 15).bind fun p2 =>
  ((getI g v0 4 9).bind fun x4 =>
  ((stI g p2 0 v1 x4).bind fun g6 =>
  (fX4_explore_27 (fX4_explore_9 n) FUEL g6 v0 v1 (1 : Int32)))))
set_option maxHeartbeats 4000000 in
set_option maxRecDepth 100000 in
theorem bX4_explore_9 {K : HK} {E : HE} {r : Int32} {g' : PH}  (C : VC K E 4 cX4_explore RX4 (some .int))  : ∀ (n : Nat) (g : PH) (v0 : Nat) (v1 : Int32), fX4_explore_9  n g v0 v1 = some (r, g') → V K E (hRm 4 98 0 0) 4 (hZ K E (some (.int r)) g' 0 0) 0 0 (kS K) g 9 [(0, .ref v0), (1, .int v1)] [] := by
  intro n
  induction n with
  | zero =>
    intro g v0 v1 hf
    rw [fX4_explore_9] at hf
    cases hf
  | succ n ih =>
    intro g v0 v1 hf
    rw [fX4_explore_9] at hf
    refine V.iload_n (pc := 9) C dX4_explore_9 1 rfl ?_
    refine V.bipush (pc := 10) C dX4_explore_10 (v := (9 : Int32)) (by decide) ?_
    refine V.icmp_gt (pc := 12) (t := 74) C dX4_explore_12 (by decide) (fun c1 => ?_) (fun c1 => ?_)
    · replace hf := ite_t c1 hf
      refine V.bipush (pc := 74) C dX4_explore_74 (v := (-2 : Int32)) (by decide) ?_
      obtain ⟨f1, f2⟩ := fin2 hf
      clear hf
      subst f1
      subst f2
      exact V.iret (pc := 76) C rfl dX4_explore_76
    replace hf := ite_f c1 hf
    refine V.aload_n (pc := 15) C dX4_explore_15 0 rfl ?_
    replace hf := ob_some hf
    obtain ⟨p2, h3, hf⟩ := hf
    refine V.getR (pc := 16) C kX4 (k := 15) (by decide) wd_708 h3 dX4_explore_16 ?_
    refine V.iload_n (pc := 19) C dX4_explore_19 1 rfl ?_
    refine V.aload_n (pc := 20) C dX4_explore_20 0 rfl ?_
    replace hf := ob_some hf
    obtain ⟨x4, h5, hf⟩ := hf
    refine V.getI (pc := 21) C kX4 (k := 9) (by decide) wd_702 h5 dX4_explore_21 ?_
    replace hf := ob_some hf
    obtain ⟨g6, h7, hf⟩ := hf
    refine V.iast (pc := 24) C h7 dX4_explore_24 ?_
    refine V.iconst (pc := 25) C dX4_explore_25 (v := (1 : Int32)) (by decide) ?_
    refine V.istore_n (pc := 26) (L' := [(2, .int (1 : Int32)), (0, .ref v0), (1, .int v1)]) C dX4_explore_26 (by decide) rfl ?_
    refine V.sub (L' := [(0, .ref v0), (1, .int v1), (2, .int (1 : Int32))]) [1, 2, 0] rfl ?_
    exact bX4_explore_27 C ih _ _ _ _ _ hf
def fX4_explore (g : PH) (a0 : Nat) : Option (Int32 × PH) :=
  okb (isO g a0 4) ((getR g a0 4 15).bind fun p1 =>
  ((stI g p1 0 (0 : Int32) (0 : Int32)).bind fun g3 =>
  (fX4_explore_9 FUEL g3 a0 (1 : Int32))))
theorem oX4_explore {g : PH} {a0 : Nat} {q : (Int32 × PH)} (h : fX4_explore g a0 = some q) : isO g a0 4 = true := by unfold fX4_explore at h; exact (okb_some h).1
theorem hyX4_explore : hMet yX4_explore RX4 cX4_explore 4 (some .int) 0 := ⟨wd_781, wd_780, ws_34, wd_15, rfl, by decide +kernel, by decide +kernel, by decide +kernel⟩
set_option maxHeartbeats 4000000 in
set_option maxRecDepth 100000 in
theorem mX4_explore (l : Launch) (E : HE) (sz : Nat) {g g' : PH} {a0 : Nat} {r : Int32} (hf : fX4_explore g a0 = some (r, g')) : hM l E yX4_explore cX4_explore 4 (some .int) 4 98 0 0 sz g [.ref a0] (some (.int r)) g' := by
  refine hM.of (by decide) (Nat.le_of_ble_eq_true rfl) (fun K hl C hin hsz => ?_)
  subst hl
  subst hsz
  have C : VC K E 4 cX4_explore RX4 (some .int) := C
  unfold fX4_explore at hf
  replace hf := okb_some hf
  obtain ⟨ho, hf⟩ := hf
  refine V.start (L' := [(0, .ref a0)]) rfl ?_
  refine V.aload_n (pc := 0) C dX4_explore_0 0 rfl ?_
  replace hf := ob_some hf
  obtain ⟨p1, h2, hf⟩ := hf
  refine V.getR (pc := 1) C kX4 (k := 15) (by decide) wd_708 h2 dX4_explore_1 ?_
  refine V.iconst (pc := 4) C dX4_explore_4 (v := (0 : Int32)) (by decide) ?_
  refine V.iconst (pc := 5) C dX4_explore_5 (v := (0 : Int32)) (by decide) ?_
  replace hf := ob_some hf
  obtain ⟨g3, h4, hf⟩ := hf
  refine V.iast (pc := 6) C h4 dX4_explore_6 ?_
  refine V.iconst (pc := 7) C dX4_explore_7 (v := (1 : Int32)) (by decide) ?_
  refine V.istore_n (pc := 8) (L' := [(1, .int (1 : Int32)), (0, .ref a0)]) C dX4_explore_8 (by decide) rfl ?_
  refine V.sub (L' := [(0, .ref a0), (1, .int (1 : Int32))]) [1, 0] rfl ?_
  exact bX4_explore_9 C  _ _ _ _ hf
theorem dX4_packedStep_0 : decode cX4_packedStep 0 = .ok (.lconst 0, 1) := by decide +kernel
theorem dX4_packedStep_1 : decode cX4_packedStep 1 = .ok (.lstore 4, 2) := by decide +kernel
theorem dX4_packedStep_3 : decode cX4_packedStep 3 = .ok (.iload_n 3, 1) := by decide +kernel
theorem dX4_packedStep_4 : decode cX4_packedStep 4 = .ok (.iconst 1, 1) := by decide +kernel
theorem dX4_packedStep_5 : decode cX4_packedStep 5 = .ok (.isub, 1) := by decide +kernel
theorem dX4_packedStep_6 : decode cX4_packedStep 6 = .ok (.istore 6, 2) := by decide +kernel
theorem dX4_packedStep_8 : decode cX4_packedStep 8 = .ok (.iconst 0, 1) := by decide +kernel
theorem dX4_packedStep_9 : decode cX4_packedStep 9 = .ok (.istore 7, 2) := by decide +kernel
theorem dX4_packedStep_11 : decode cX4_packedStep 11 = .ok (.iload 7, 2) := by decide +kernel
theorem dX4_packedStep_13 : decode cX4_packedStep 13 = .ok (.aload_n 0, 1) := by decide +kernel
theorem dX4_packedStep_14 : decode cX4_packedStep 14 = .ok (.getfield 19, 3) := by decide +kernel
theorem dX4_packedStep_17 : decode cX4_packedStep 17 = .ok (.iload_n 1, 1) := by decide +kernel
theorem dX4_packedStep_18 : decode cX4_packedStep 18 = .ok (.iaload, 1) := by decide +kernel
theorem dX4_packedStep_19 : decode cX4_packedStep 19 = .ok (.if_icmp .ge 89, 3) := by decide +kernel
theorem dX4_packedStep_22 : decode cX4_packedStep 22 = .ok (.aload_n 0, 1) := by decide +kernel
theorem dX4_packedStep_23 : decode cX4_packedStep 23 = .ok (.getfield 26, 3) := by decide +kernel
theorem dX4_packedStep_26 : decode cX4_packedStep 26 = .ok (.iload_n 1, 1) := by decide +kernel
theorem dX4_packedStep_27 : decode cX4_packedStep 27 = .ok (.iconst 3, 1) := by decide +kernel
theorem dX4_packedStep_28 : decode cX4_packedStep 28 = .ok (.imul, 1) := by decide +kernel
theorem dX4_packedStep_29 : decode cX4_packedStep 29 = .ok (.iload 7, 2) := by decide +kernel
theorem dX4_packedStep_31 : decode cX4_packedStep 31 = .ok (.iadd, 1) := by decide +kernel
theorem dX4_packedStep_32 : decode cX4_packedStep 32 = .ok (.iaload, 1) := by decide +kernel
theorem dX4_packedStep_33 : decode cX4_packedStep 33 = .ok (.istore 8, 2) := by decide +kernel
theorem dX4_packedStep_35 : decode cX4_packedStep 35 = .ok (.iload 8, 2) := by decide +kernel
theorem dX4_packedStep_37 : decode cX4_packedStep 37 = .ok (.ifCond .ne 8, 3) := by decide +kernel
theorem dX4_packedStep_40 : decode cX4_packedStep 40 = .ok (.iload 6, 2) := by decide +kernel
theorem dX4_packedStep_42 : decode cX4_packedStep 42 = .ok (.goto 7, 3) := by decide +kernel
theorem dX4_packedStep_45 : decode cX4_packedStep 45 = .ok (.iload 8, 2) := by decide +kernel
theorem dX4_packedStep_47 : decode cX4_packedStep 47 = .ok (.iconst 1, 1) := by decide +kernel
theorem dX4_packedStep_48 : decode cX4_packedStep 48 = .ok (.isub, 1) := by decide +kernel
theorem dX4_packedStep_49 : decode cX4_packedStep 49 = .ok (.istore 6, 2) := by decide +kernel
theorem dX4_packedStep_51 : decode cX4_packedStep 51 = .ok (.iload 8, 2) := by decide +kernel
theorem dX4_packedStep_53 : decode cX4_packedStep 53 = .ok (.ifCond .ne 8, 3) := by decide +kernel
theorem dX4_packedStep_56 : decode cX4_packedStep 56 = .ok (.iload 6, 2) := by decide +kernel
theorem dX4_packedStep_58 : decode cX4_packedStep 58 = .ok (.goto 7, 3) := by decide +kernel
theorem dX4_packedStep_61 : decode cX4_packedStep 61 = .ok (.iconst 2, 1) := by decide +kernel
theorem dX4_packedStep_62 : decode cX4_packedStep 62 = .ok (.iload 6, 2) := by decide +kernel
theorem dX4_packedStep_64 : decode cX4_packedStep 64 = .ok (.iadd, 1) := by decide +kernel
theorem dX4_packedStep_65 : decode cX4_packedStep 65 = .ok (.istore 9, 2) := by decide +kernel
theorem dX4_packedStep_67 : decode cX4_packedStep 67 = .ok (.lload 4, 2) := by decide +kernel
theorem dX4_packedStep_69 : decode cX4_packedStep 69 = .ok (.iload_n 2, 1) := by decide +kernel
theorem dX4_packedStep_70 : decode cX4_packedStep 70 = .ok (.iconst 3, 1) := by decide +kernel
theorem dX4_packedStep_71 : decode cX4_packedStep 71 = .ok (.ishl, 1) := by decide +kernel
theorem dX4_packedStep_72 : decode cX4_packedStep 72 = .ok (.aload_n 0, 1) := by decide +kernel
theorem dX4_packedStep_73 : decode cX4_packedStep 73 = .ok (.getfield 22, 3) := by decide +kernel
theorem dX4_packedStep_76 : decode cX4_packedStep 76 = .ok (.iload_n 1, 1) := by decide +kernel
theorem dX4_packedStep_77 : decode cX4_packedStep 77 = .ok (.baload, 1) := by decide +kernel
theorem dX4_packedStep_78 : decode cX4_packedStep 78 = .ok (.ifCond .eq 7, 3) := by decide +kernel
theorem dX4_packedStep_81 : decode cX4_packedStep 81 = .ok (.iconst 4, 1) := by decide +kernel
theorem dX4_packedStep_82 : decode cX4_packedStep 82 = .ok (.goto 4, 3) := by decide +kernel
theorem dX4_packedStep_85 : decode cX4_packedStep 85 = .ok (.iconst 0, 1) := by decide +kernel
theorem dX4_packedStep_86 : decode cX4_packedStep 86 = .ok (.ior, 1) := by decide +kernel
theorem dX4_packedStep_87 : decode cX4_packedStep 87 = .ok (.iload 9, 2) := by decide +kernel
theorem dX4_packedStep_89 : decode cX4_packedStep 89 = .ok (.iconst 3, 1) := by decide +kernel
theorem dX4_packedStep_90 : decode cX4_packedStep 90 = .ok (.iand, 1) := by decide +kernel
theorem dX4_packedStep_91 : decode cX4_packedStep 91 = .ok (.ior, 1) := by decide +kernel
theorem dX4_packedStep_92 : decode cX4_packedStep 92 = .ok (.i2l, 1) := by decide +kernel
theorem dX4_packedStep_93 : decode cX4_packedStep 93 = .ok (.bipush 7, 2) := by decide +kernel
theorem dX4_packedStep_95 : decode cX4_packedStep 95 = .ok (.iload 7, 2) := by decide +kernel
theorem dX4_packedStep_97 : decode cX4_packedStep 97 = .ok (.imul, 1) := by decide +kernel
theorem dX4_packedStep_98 : decode cX4_packedStep 98 = .ok (.lshl, 1) := by decide +kernel
theorem dX4_packedStep_99 : decode cX4_packedStep 99 = .ok (.lor, 1) := by decide +kernel
theorem dX4_packedStep_100 : decode cX4_packedStep 100 = .ok (.lstore 4, 2) := by decide +kernel
theorem dX4_packedStep_102 : decode cX4_packedStep 102 = .ok (.iinc 7 1, 3) := by decide +kernel
theorem dX4_packedStep_105 : decode cX4_packedStep 105 = .ok (.goto (-94), 3) := by decide +kernel
theorem dX4_packedStep_108 : decode cX4_packedStep 108 = .ok (.lload 4, 2) := by decide +kernel
theorem dX4_packedStep_110 : decode cX4_packedStep 110 = .ok (.lreturn, 1) := by decide +kernel
def fX4_packedStep_86 (k11 : PH → Nat → Int32 → Int32 → Int64 → Int32 → Int32 → Option (Int64 × PH)) (g : PH) (v0 : Nat) (v1 : Int32) (v2 : Int32) (v6 : Int32) (v7 : Int32) (v9 : Int32) (s0 : Int32) (s1 : Int32) (s2 : Int64) : Option (Int64 × PH) :=
  k11 g v0 v1 v2 (s2 ||| (((s1 ||| s0) ||| (v9 &&& (3 : Int32))).toInt64 <<< (((7 : Int32) * v7).toInt64 &&& 63))) v6 (v7 + (1 : Int32))
set_option maxHeartbeats 4000000 in
set_option maxRecDepth 100000 in
theorem bX4_packedStep_86 {K : HK} {E : HE} {r : Int64} {g' : PH} {k11 : PH → Nat → Int32 → Int32 → Int64 → Int32 → Int32 → Option (Int64 × PH)} (C : VC K E 10 cX4_packedStep RX4 (some .long)) (hk11 : ∀ (g : PH) (v0 : Nat) (v1 : Int32) (v2 : Int32) (v4 : Int64) (v6 : Int32) (v7 : Int32), k11 g v0 v1 v2 v4 v6 v7 = some (r, g') → V K E (hRm 0 0 0 0) 10 (hZ K E (some (.long r)) g' 0 0) 0 0 (kS K) g 11 [(0, .ref v0), (1, .int v1), (2, .int v2), (4, .long v4), (6, .int v6), (7, .int v7)] []) {g : PH} {v0 : Nat} {v1 : Int32} {v2 : Int32} {v6 : Int32} {v7 : Int32} {v9 : Int32} {s0 : Int32} {s1 : Int32} {s2 : Int64} (hf : fX4_packedStep_86 k11 g v0 v1 v2 v6 v7 v9 s0 s1 s2 = some (r, g')) : V K E (hRm 0 0 0 0) 10 (hZ K E (some (.long r)) g' 0 0) 0 0 (kS K) g 86 [(0, .ref v0), (1, .int v1), (2, .int v2), (6, .int v6), (7, .int v7), (9, .int v9)] [.int s0, .int s1, .long s2] := by
  unfold fX4_packedStep_86 at hf
  refine V.ior (pc := 86) C dX4_packedStep_86 ?_
  refine V.iload (pc := 87) C dX4_packedStep_87 5 rfl ?_
  refine V.iconst (pc := 89) C dX4_packedStep_89 (v := (3 : Int32)) (by decide) ?_
  refine V.iand (pc := 90) C dX4_packedStep_90 ?_
  refine V.ior (pc := 91) C dX4_packedStep_91 ?_
  refine V.i2l (pc := 92) C dX4_packedStep_92 ?_
  refine V.bipush (pc := 93) C dX4_packedStep_93 (v := (7 : Int32)) (by decide) ?_
  refine V.iload (pc := 95) C dX4_packedStep_95 4 rfl ?_
  refine V.imul (pc := 97) C dX4_packedStep_97 ?_
  refine V.lshl (pc := 98) C dX4_packedStep_98 ?_
  refine V.lor (pc := 99) C dX4_packedStep_99 ?_
  refine V.lstore (pc := 100) (L' := [(4, .long (s2 ||| (((s1 ||| s0) ||| (v9 &&& (3 : Int32))).toInt64 <<< (((7 : Int32) * v7).toInt64 &&& 63)))), (0, .ref v0), (1, .int v1), (2, .int v2), (6, .int v6), (7, .int v7), (9, .int v9)]) C dX4_packedStep_100 (by decide) rfl ?_
  refine V.iinc (pc := 102) (v := (v7 + (1 : Int32))) (L' := [(7, .int (v7 + (1 : Int32))), (4, .long (s2 ||| (((s1 ||| s0) ||| (v9 &&& (3 : Int32))).toInt64 <<< (((7 : Int32) * v7).toInt64 &&& 63)))), (0, .ref v0), (1, .int v1), (2, .int v2), (6, .int v6), (9, .int v9)]) C dX4_packedStep_102 5 rfl rfl (by decide) rfl ?_
  refine V.goto (pc := 105) (t := 11) C dX4_packedStep_105 (by decide) ?_
  refine V.sub (L' := [(0, .ref v0), (1, .int v1), (2, .int v2), (4, .long (s2 ||| (((s1 ||| s0) ||| (v9 &&& (3 : Int32))).toInt64 <<< (((7 : Int32) * v7).toInt64 &&& 63)))), (6, .int v6), (7, .int (v7 + (1 : Int32)))]) [2, 3, 4, 1, 5, 0] rfl ?_
  exact hk11 _ _ _ _ _ _ _ hf
def fX4_packedStep_65 (k11 : PH → Nat → Int32 → Int32 → Int64 → Int32 → Int32 → Option (Int64 × PH)) (g : PH) (v0 : Nat) (v1 : Int32) (v2 : Int32) (v4 : Int64) (v6 : Int32) (v7 : Int32) (s0 : Int32) : Option (Int64 × PH) :=
  (getR g v0 4 3).bind fun p1 =>
  ((ldI g p1 3 v1).bind fun x3 =>
  (if x3 = 0 then (fX4_packedStep_86 (k11) g v0 v1 v2 v6 v7 s0 (0 : Int32) (v2 <<< ((3 : Int32) &&& 31)) v4) else
  (fX4_packedStep_86 (k11) g v0 v1 v2 v6 v7 s0 (4 : Int32) (v2 <<< ((3 : Int32) &&& 31)) v4)))
set_option maxHeartbeats 4000000 in
set_option maxRecDepth 100000 in
theorem bX4_packedStep_65 {K : HK} {E : HE} {r : Int64} {g' : PH} {k11 : PH → Nat → Int32 → Int32 → Int64 → Int32 → Int32 → Option (Int64 × PH)} (C : VC K E 10 cX4_packedStep RX4 (some .long)) (hk11 : ∀ (g : PH) (v0 : Nat) (v1 : Int32) (v2 : Int32) (v4 : Int64) (v6 : Int32) (v7 : Int32), k11 g v0 v1 v2 v4 v6 v7 = some (r, g') → V K E (hRm 0 0 0 0) 10 (hZ K E (some (.long r)) g' 0 0) 0 0 (kS K) g 11 [(0, .ref v0), (1, .int v1), (2, .int v2), (4, .long v4), (6, .int v6), (7, .int v7)] []) {g : PH} {v0 : Nat} {v1 : Int32} {v2 : Int32} {v4 : Int64} {v6 : Int32} {v7 : Int32} {s0 : Int32} (hf : fX4_packedStep_65 k11 g v0 v1 v2 v4 v6 v7 s0 = some (r, g')) : V K E (hRm 0 0 0 0) 10 (hZ K E (some (.long r)) g' 0 0) 0 0 (kS K) g 65 [(0, .ref v0), (1, .int v1), (2, .int v2), (4, .long v4), (6, .int v6), (7, .int v7)] [.int s0] := by
  unfold fX4_packedStep_65 at hf
  refine V.istore (pc := 65) (L' := [(9, .int s0), (0, .ref v0), (1, .int v1), (2, .int v2), (4, .long v4), (6, .int v6), (7, .int v7)]) C dX4_packedStep_65 (by decide) rfl ?_
  refine V.lload (pc := 67) C dX4_packedStep_67 4 rfl ?_
  refine V.iload_n (pc := 69) C dX4_packedStep_69 3 rfl ?_
  refine V.iconst (pc := 70) C dX4_packedStep_70 (v := (3 : Int32)) (by decide) ?_
  refine V.ishl (pc := 71) C dX4_packedStep_71 ?_
  refine V.aload_n (pc := 72) C dX4_packedStep_72 1 rfl ?_
  replace hf := ob_some hf
  obtain ⟨p1, h2, hf⟩ := hf
  refine V.getR (pc := 73) C kX4 (k := 3) (by decide) wd_696 h2 dX4_packedStep_73 ?_
  refine V.iload_n (pc := 76) C dX4_packedStep_76 2 rfl ?_
  replace hf := ob_some hf
  obtain ⟨x3, h4, hf⟩ := hf
  refine V.zald (pc := 77) C h4 dX4_packedStep_77 ?_
  refine V.if_eq (pc := 78) (t := 85) C dX4_packedStep_78 (by decide) (fun c5 => ?_) (fun c5 => ?_)
  · replace hf := ite_t c5 hf
    refine V.iconst (pc := 85) C dX4_packedStep_85 (v := (0 : Int32)) (by decide) ?_
    refine V.sub (L' := [(0, .ref v0), (1, .int v1), (2, .int v2), (6, .int v6), (7, .int v7), (9, .int s0)]) [1, 2, 3, 5, 6, 0] rfl ?_
    exact bX4_packedStep_86 C hk11 hf
  replace hf := ite_f c5 hf
  refine V.iconst (pc := 81) C dX4_packedStep_81 (v := (4 : Int32)) (by decide) ?_
  refine V.goto (pc := 82) (t := 86) C dX4_packedStep_82 (by decide) ?_
  refine V.sub (L' := [(0, .ref v0), (1, .int v1), (2, .int v2), (6, .int v6), (7, .int v7), (9, .int s0)]) [1, 2, 3, 5, 6, 0] rfl ?_
  exact bX4_packedStep_86 C hk11 hf
def fX4_packedStep_49 (k11 : PH → Nat → Int32 → Int32 → Int64 → Int32 → Int32 → Option (Int64 × PH)) (g : PH) (v0 : Nat) (v1 : Int32) (v2 : Int32) (v4 : Int64) (v7 : Int32) (v8 : Int32) (s0 : Int32) : Option (Int64 × PH) :=
  if v8 = 0 then (fX4_packedStep_65 (k11) g v0 v1 v2 v4 s0 v7 s0) else
  (fX4_packedStep_65 (k11) g v0 v1 v2 v4 s0 v7 ((2 : Int32) + s0))
set_option maxHeartbeats 4000000 in
set_option maxRecDepth 100000 in
theorem bX4_packedStep_49 {K : HK} {E : HE} {r : Int64} {g' : PH} {k11 : PH → Nat → Int32 → Int32 → Int64 → Int32 → Int32 → Option (Int64 × PH)} (C : VC K E 10 cX4_packedStep RX4 (some .long)) (hk11 : ∀ (g : PH) (v0 : Nat) (v1 : Int32) (v2 : Int32) (v4 : Int64) (v6 : Int32) (v7 : Int32), k11 g v0 v1 v2 v4 v6 v7 = some (r, g') → V K E (hRm 0 0 0 0) 10 (hZ K E (some (.long r)) g' 0 0) 0 0 (kS K) g 11 [(0, .ref v0), (1, .int v1), (2, .int v2), (4, .long v4), (6, .int v6), (7, .int v7)] []) {g : PH} {v0 : Nat} {v1 : Int32} {v2 : Int32} {v4 : Int64} {v7 : Int32} {v8 : Int32} {s0 : Int32} (hf : fX4_packedStep_49 k11 g v0 v1 v2 v4 v7 v8 s0 = some (r, g')) : V K E (hRm 0 0 0 0) 10 (hZ K E (some (.long r)) g' 0 0) 0 0 (kS K) g 49 [(0, .ref v0), (1, .int v1), (2, .int v2), (4, .long v4), (7, .int v7), (8, .int v8)] [.int s0] := by
  unfold fX4_packedStep_49 at hf
  refine V.istore (pc := 49) (L' := [(6, .int s0), (0, .ref v0), (1, .int v1), (2, .int v2), (4, .long v4), (7, .int v7), (8, .int v8)]) C dX4_packedStep_49 (by decide) rfl ?_
  refine V.iload (pc := 51) C dX4_packedStep_51 6 rfl ?_
  refine V.if_ne (pc := 53) (t := 61) C dX4_packedStep_53 (by decide) (fun c1 => ?_) (fun c1 => ?_)
  · replace hf := ite_f c1 hf
    refine V.iconst (pc := 61) C dX4_packedStep_61 (v := (2 : Int32)) (by decide) ?_
    refine V.iload (pc := 62) C dX4_packedStep_62 0 rfl ?_
    refine V.iadd (pc := 64) C dX4_packedStep_64 ?_
    refine V.sub (L' := [(0, .ref v0), (1, .int v1), (2, .int v2), (4, .long v4), (6, .int s0), (7, .int v7)]) [1, 2, 3, 4, 0, 5] rfl ?_
    exact bX4_packedStep_65 C hk11 hf
  replace hf := ite_t c1 hf
  refine V.iload (pc := 56) C dX4_packedStep_56 0 rfl ?_
  refine V.goto (pc := 58) (t := 65) C dX4_packedStep_58 (by decide) ?_
  refine V.sub (L' := [(0, .ref v0), (1, .int v1), (2, .int v2), (4, .long v4), (6, .int s0), (7, .int v7)]) [1, 2, 3, 4, 0, 5] rfl ?_
  exact bX4_packedStep_65 C hk11 hf
def fX4_packedStep_11  : Nat → PH → Nat → Int32 → Int32 → Int64 → Int32 → Int32 → Option (Int64 × PH)
  | 0, _, _, _, _, _, _, _ => none
  | n + 1, g, v0, v1, v2, v4, v6, v7 =>
  (getR g v0 4 2).bind fun p1 =>
  ((ldI g p1 0 v1).bind fun x3 =>
  (if x3 ≤ v7 then (some (v4, g)) else
  ((getR g v0 4 4).bind fun p6 =>
  ((ldI g p6 0 ((v1 * (3 : Int32)) + v7)).bind fun x8 =>
  (if x8 = 0 then (fX4_packedStep_49 (fX4_packedStep_11 n) g v0 v1 v2 v4 v7 x8 v6) else
  (fX4_packedStep_49 (fX4_packedStep_11 n) g v0 v1 v2 v4 v7 x8 (x8 - (1 : Int32))))))))
set_option maxHeartbeats 4000000 in
set_option maxRecDepth 100000 in
theorem bX4_packedStep_11 {K : HK} {E : HE} {r : Int64} {g' : PH}  (C : VC K E 10 cX4_packedStep RX4 (some .long))  : ∀ (n : Nat) (g : PH) (v0 : Nat) (v1 : Int32) (v2 : Int32) (v4 : Int64) (v6 : Int32) (v7 : Int32), fX4_packedStep_11  n g v0 v1 v2 v4 v6 v7 = some (r, g') → V K E (hRm 0 0 0 0) 10 (hZ K E (some (.long r)) g' 0 0) 0 0 (kS K) g 11 [(0, .ref v0), (1, .int v1), (2, .int v2), (4, .long v4), (6, .int v6), (7, .int v7)] [] := by
  intro n
  induction n with
  | zero =>
    intro g v0 v1 v2 v4 v6 v7 hf
    rw [fX4_packedStep_11] at hf
    cases hf
  | succ n ih =>
    intro g v0 v1 v2 v4 v6 v7 hf
    rw [fX4_packedStep_11] at hf
    refine V.iload (pc := 11) C dX4_packedStep_11 5 rfl ?_
    refine V.aload_n (pc := 13) C dX4_packedStep_13 0 rfl ?_
    replace hf := ob_some hf
    obtain ⟨p1, h2, hf⟩ := hf
    refine V.getR (pc := 14) C kX4 (k := 2) (by decide) wd_695 h2 dX4_packedStep_14 ?_
    refine V.iload_n (pc := 17) C dX4_packedStep_17 1 rfl ?_
    replace hf := ob_some hf
    obtain ⟨x3, h4, hf⟩ := hf
    refine V.iald (pc := 18) C h4 dX4_packedStep_18 ?_
    refine V.icmp_ge (pc := 19) (t := 108) C dX4_packedStep_19 (by decide) (fun c5 => ?_) (fun c5 => ?_)
    · replace hf := ite_t c5 hf
      refine V.lload (pc := 108) C dX4_packedStep_108 3 rfl ?_
      obtain ⟨f1, f2⟩ := fin2 hf
      clear hf
      subst f1
      subst f2
      exact V.lret (pc := 110) C rfl dX4_packedStep_110
    replace hf := ite_f c5 hf
    refine V.aload_n (pc := 22) C dX4_packedStep_22 0 rfl ?_
    replace hf := ob_some hf
    obtain ⟨p6, h7, hf⟩ := hf
    refine V.getR (pc := 23) C kX4 (k := 4) (by decide) wd_697 h7 dX4_packedStep_23 ?_
    refine V.iload_n (pc := 26) C dX4_packedStep_26 1 rfl ?_
    refine V.iconst (pc := 27) C dX4_packedStep_27 (v := (3 : Int32)) (by decide) ?_
    refine V.imul (pc := 28) C dX4_packedStep_28 ?_
    refine V.iload (pc := 29) C dX4_packedStep_29 5 rfl ?_
    refine V.iadd (pc := 31) C dX4_packedStep_31 ?_
    replace hf := ob_some hf
    obtain ⟨x8, h9, hf⟩ := hf
    refine V.iald (pc := 32) C h9 dX4_packedStep_32 ?_
    refine V.istore (pc := 33) (L' := [(8, .int x8), (0, .ref v0), (1, .int v1), (2, .int v2), (4, .long v4), (6, .int v6), (7, .int v7)]) C dX4_packedStep_33 (by decide) rfl ?_
    refine V.iload (pc := 35) C dX4_packedStep_35 0 rfl ?_
    refine V.if_ne (pc := 37) (t := 45) C dX4_packedStep_37 (by decide) (fun c10 => ?_) (fun c10 => ?_)
    · replace hf := ite_f c10 hf
      refine V.iload (pc := 45) C dX4_packedStep_45 0 rfl ?_
      refine V.iconst (pc := 47) C dX4_packedStep_47 (v := (1 : Int32)) (by decide) ?_
      refine V.isub (pc := 48) C dX4_packedStep_48 ?_
      refine V.sub (L' := [(0, .ref v0), (1, .int v1), (2, .int v2), (4, .long v4), (7, .int v7), (8, .int x8)]) [1, 2, 3, 4, 6, 0] rfl ?_
      exact bX4_packedStep_49 C ih hf
    replace hf := ite_t c10 hf
    refine V.iload (pc := 40) C dX4_packedStep_40 5 rfl ?_
    refine V.goto (pc := 42) (t := 49) C dX4_packedStep_42 (by decide) ?_
    refine V.sub (L' := [(0, .ref v0), (1, .int v1), (2, .int v2), (4, .long v4), (7, .int v7), (8, .int x8)]) [1, 2, 3, 4, 6, 0] rfl ?_
    exact bX4_packedStep_49 C ih hf
def fX4_packedStep (g : PH) (a0 : Nat) (a1 : Int32) (a2 : Int32) (a3 : Int32) : Option (Int64 × PH) :=
  okb (isO g a0 4) (fX4_packedStep_11 FUEL g a0 a1 a2 (0 : Int64) (a3 - (1 : Int32)) (0 : Int32))
theorem oX4_packedStep {g : PH} {a0 : Nat} {a1 : Int32} {a2 : Int32} {a3 : Int32} {q : (Int64 × PH)} (h : fX4_packedStep g a0 a1 a2 a3 = some q) : isO g a0 4 = true := by unfold fX4_packedStep at h; exact (okb_some h).1
theorem hyX4_packedStep : hMet yX4_packedStep RX4 cX4_packedStep 10 (some .long) 3 := ⟨wd_805, wd_804, ws_39, wd_15, rfl, by decide +kernel, by decide +kernel, by decide +kernel⟩
set_option maxHeartbeats 4000000 in
set_option maxRecDepth 100000 in
theorem mX4_packedStep (l : Launch) (E : HE) (sz : Nat) {g g' : PH} {a0 : Nat} {a1 : Int32} {a2 : Int32} {a3 : Int32} {r : Int64} (hf : fX4_packedStep g a0 a1 a2 a3 = some (r, g')) : hM l E yX4_packedStep cX4_packedStep 10 (some .long) 0 0 0 0 sz g [.ref a0, .int a1, .int a2, .int a3] (some (.long r)) g' := by
  refine hM.of (by decide) (Nat.le_of_ble_eq_true rfl) (fun K hl C hin hsz => ?_)
  subst hl
  subst hsz
  have C : VC K E 10 cX4_packedStep RX4 (some .long) := C
  unfold fX4_packedStep at hf
  replace hf := okb_some hf
  obtain ⟨ho, hf⟩ := hf
  refine V.start (L' := [(0, .ref a0), (1, .int a1), (2, .int a2), (3, .int a3)]) rfl ?_
  refine V.lconst (pc := 0) C dX4_packedStep_0 (v := (0 : Int64)) (by decide) ?_
  refine V.lstore (pc := 1) (L' := [(4, .long (0 : Int64)), (0, .ref a0), (1, .int a1), (2, .int a2), (3, .int a3)]) C dX4_packedStep_1 (by decide) rfl ?_
  refine V.iload_n (pc := 3) C dX4_packedStep_3 4 rfl ?_
  refine V.iconst (pc := 4) C dX4_packedStep_4 (v := (1 : Int32)) (by decide) ?_
  refine V.isub (pc := 5) C dX4_packedStep_5 ?_
  refine V.istore (pc := 6) (L' := [(6, .int (a3 - (1 : Int32))), (4, .long (0 : Int64)), (0, .ref a0), (1, .int a1), (2, .int a2), (3, .int a3)]) C dX4_packedStep_6 (by decide) rfl ?_
  refine V.iconst (pc := 8) C dX4_packedStep_8 (v := (0 : Int32)) (by decide) ?_
  refine V.istore (pc := 9) (L' := [(7, .int (0 : Int32)), (6, .int (a3 - (1 : Int32))), (4, .long (0 : Int64)), (0, .ref a0), (1, .int a1), (2, .int a2), (3, .int a3)]) C dX4_packedStep_9 (by decide) rfl ?_
  refine V.sub (L' := [(0, .ref a0), (1, .int a1), (2, .int a2), (4, .long (0 : Int64)), (6, .int (a3 - (1 : Int32))), (7, .int (0 : Int32))]) [3, 4, 5, 2, 1, 0] rfl ?_
  exact bX4_packedStep_11 C  _ _ _ _ _ _ _ _ hf
theorem dX4_walkTo_0 : decode cX4_walkTo 0 = .ok (.iconst 0, 1) := by decide +kernel
theorem dX4_walkTo_1 : decode cX4_walkTo 1 = .ok (.istore_n 2, 1) := by decide +kernel
theorem dX4_walkTo_2 : decode cX4_walkTo 2 = .ok (.iconst 0, 1) := by decide +kernel
theorem dX4_walkTo_3 : decode cX4_walkTo 3 = .ok (.istore_n 3, 1) := by decide +kernel
theorem dX4_walkTo_4 : decode cX4_walkTo 4 = .ok (.iload_n 1, 1) := by decide +kernel
theorem dX4_walkTo_5 : decode cX4_walkTo 5 = .ok (.istore 4, 2) := by decide +kernel
theorem dX4_walkTo_7 : decode cX4_walkTo 7 = .ok (.iload 4, 2) := by decide +kernel
theorem dX4_walkTo_9 : decode cX4_walkTo 9 = .ok (.ifCond .le 39, 3) := by decide +kernel
theorem dX4_walkTo_12 : decode cX4_walkTo 12 = .ok (.iload_n 3, 1) := by decide +kernel
theorem dX4_walkTo_13 : decode cX4_walkTo 13 = .ok (.bipush 9, 2) := by decide +kernel
theorem dX4_walkTo_15 : decode cX4_walkTo 15 = .ok (.if_icmp .ge 33, 3) := by decide +kernel
theorem dX4_walkTo_18 : decode cX4_walkTo 18 = .ok (.iload_n 2, 1) := by decide +kernel
theorem dX4_walkTo_19 : decode cX4_walkTo 19 = .ok (.aload_n 0, 1) := by decide +kernel
theorem dX4_walkTo_20 : decode cX4_walkTo 20 = .ok (.getfield 19, 3) := by decide +kernel
theorem dX4_walkTo_23 : decode cX4_walkTo 23 = .ok (.aload_n 0, 1) := by decide +kernel
theorem dX4_walkTo_24 : decode cX4_walkTo 24 = .ok (.getfield 54, 3) := by decide +kernel
theorem dX4_walkTo_27 : decode cX4_walkTo 27 = .ok (.iload 4, 2) := by decide +kernel
theorem dX4_walkTo_29 : decode cX4_walkTo 29 = .ok (.iaload, 1) := by decide +kernel
theorem dX4_walkTo_30 : decode cX4_walkTo 30 = .ok (.iaload, 1) := by decide +kernel
theorem dX4_walkTo_31 : decode cX4_walkTo 31 = .ok (.iadd, 1) := by decide +kernel
theorem dX4_walkTo_32 : decode cX4_walkTo 32 = .ok (.istore_n 2, 1) := by decide +kernel
theorem dX4_walkTo_33 : decode cX4_walkTo 33 = .ok (.iinc 3 1, 3) := by decide +kernel
theorem dX4_walkTo_36 : decode cX4_walkTo 36 = .ok (.aload_n 0, 1) := by decide +kernel
theorem dX4_walkTo_37 : decode cX4_walkTo 37 = .ok (.getfield 51, 3) := by decide +kernel
theorem dX4_walkTo_40 : decode cX4_walkTo 40 = .ok (.iload 4, 2) := by decide +kernel
theorem dX4_walkTo_42 : decode cX4_walkTo 42 = .ok (.iaload, 1) := by decide +kernel
theorem dX4_walkTo_43 : decode cX4_walkTo 43 = .ok (.istore 4, 2) := by decide +kernel
theorem dX4_walkTo_45 : decode cX4_walkTo 45 = .ok (.goto (-38), 3) := by decide +kernel
theorem dX4_walkTo_48 : decode cX4_walkTo 48 = .ok (.lconst 0, 1) := by decide +kernel
theorem dX4_walkTo_49 : decode cX4_walkTo 49 = .ok (.lstore 4, 2) := by decide +kernel
theorem dX4_walkTo_51 : decode cX4_walkTo 51 = .ok (.iload_n 1, 1) := by decide +kernel
theorem dX4_walkTo_52 : decode cX4_walkTo 52 = .ok (.istore 6, 2) := by decide +kernel
theorem dX4_walkTo_54 : decode cX4_walkTo 54 = .ok (.iload_n 3, 1) := by decide +kernel
theorem dX4_walkTo_55 : decode cX4_walkTo 55 = .ok (.iconst 1, 1) := by decide +kernel
theorem dX4_walkTo_56 : decode cX4_walkTo 56 = .ok (.isub, 1) := by decide +kernel
theorem dX4_walkTo_57 : decode cX4_walkTo 57 = .ok (.istore 7, 2) := by decide +kernel
theorem dX4_walkTo_59 : decode cX4_walkTo 59 = .ok (.iload 7, 2) := by decide +kernel
theorem dX4_walkTo_61 : decode cX4_walkTo 61 = .ok (.ifCond .lt 72, 3) := by decide +kernel
theorem dX4_walkTo_64 : decode cX4_walkTo 64 = .ok (.iload 6, 2) := by decide +kernel
theorem dX4_walkTo_66 : decode cX4_walkTo 66 = .ok (.ifCond .le 67, 3) := by decide +kernel
theorem dX4_walkTo_69 : decode cX4_walkTo 69 = .ok (.aload_n 0, 1) := by decide +kernel
theorem dX4_walkTo_70 : decode cX4_walkTo 70 = .ok (.getfield 51, 3) := by decide +kernel
theorem dX4_walkTo_73 : decode cX4_walkTo 73 = .ok (.iload 6, 2) := by decide +kernel
theorem dX4_walkTo_75 : decode cX4_walkTo 75 = .ok (.iaload, 1) := by decide +kernel
theorem dX4_walkTo_76 : decode cX4_walkTo 76 = .ok (.istore 8, 2) := by decide +kernel
theorem dX4_walkTo_78 : decode cX4_walkTo 78 = .ok (.iload_n 2, 1) := by decide +kernel
theorem dX4_walkTo_79 : decode cX4_walkTo 79 = .ok (.aload_n 0, 1) := by decide +kernel
theorem dX4_walkTo_80 : decode cX4_walkTo 80 = .ok (.getfield 19, 3) := by decide +kernel
theorem dX4_walkTo_83 : decode cX4_walkTo 83 = .ok (.aload_n 0, 1) := by decide +kernel
theorem dX4_walkTo_84 : decode cX4_walkTo 84 = .ok (.getfield 54, 3) := by decide +kernel
theorem dX4_walkTo_87 : decode cX4_walkTo 87 = .ok (.iload 6, 2) := by decide +kernel
theorem dX4_walkTo_89 : decode cX4_walkTo 89 = .ok (.iaload, 1) := by decide +kernel
theorem dX4_walkTo_90 : decode cX4_walkTo 90 = .ok (.iaload, 1) := by decide +kernel
theorem dX4_walkTo_91 : decode cX4_walkTo 91 = .ok (.isub, 1) := by decide +kernel
theorem dX4_walkTo_92 : decode cX4_walkTo 92 = .ok (.istore_n 2, 1) := by decide +kernel
theorem dX4_walkTo_93 : decode cX4_walkTo 93 = .ok (.lload 4, 2) := by decide +kernel
theorem dX4_walkTo_95 : decode cX4_walkTo 95 = .ok (.aload_n 0, 1) := by decide +kernel
theorem dX4_walkTo_96 : decode cX4_walkTo 96 = .ok (.aload_n 0, 1) := by decide +kernel
theorem dX4_walkTo_97 : decode cX4_walkTo 97 = .ok (.getfield 54, 3) := by decide +kernel
theorem dX4_walkTo_100 : decode cX4_walkTo 100 = .ok (.iload 6, 2) := by decide +kernel
theorem dX4_walkTo_102 : decode cX4_walkTo 102 = .ok (.iaload, 1) := by decide +kernel
theorem dX4_walkTo_103 : decode cX4_walkTo 103 = .ok (.iload 7, 2) := by decide +kernel
theorem dX4_walkTo_105 : decode cX4_walkTo 105 = .ok (.aload_n 0, 1) := by decide +kernel
theorem dX4_walkTo_106 : decode cX4_walkTo 106 = .ok (.getfield 48, 3) := by decide +kernel
theorem dX4_walkTo_109 : decode cX4_walkTo 109 = .ok (.iload 8, 2) := by decide +kernel
theorem dX4_walkTo_111 : decode cX4_walkTo 111 = .ok (.iaload, 1) := by decide +kernel
theorem dX4_walkTo_112 : decode cX4_walkTo 112 = .ok (.invokevirtual 132, 3) := by decide +kernel
theorem dX4_walkTo_115 : decode cX4_walkTo 115 = .ok (.bipush 7, 2) := by decide +kernel
theorem dX4_walkTo_117 : decode cX4_walkTo 117 = .ok (.iload_n 2, 1) := by decide +kernel
theorem dX4_walkTo_118 : decode cX4_walkTo 118 = .ok (.imul, 1) := by decide +kernel
theorem dX4_walkTo_119 : decode cX4_walkTo 119 = .ok (.lshl, 1) := by decide +kernel
theorem dX4_walkTo_120 : decode cX4_walkTo 120 = .ok (.lor, 1) := by decide +kernel
theorem dX4_walkTo_121 : decode cX4_walkTo 121 = .ok (.lstore 4, 2) := by decide +kernel
theorem dX4_walkTo_123 : decode cX4_walkTo 123 = .ok (.iload 8, 2) := by decide +kernel
theorem dX4_walkTo_125 : decode cX4_walkTo 125 = .ok (.istore 6, 2) := by decide +kernel
theorem dX4_walkTo_127 : decode cX4_walkTo 127 = .ok (.iinc 7 (-1), 3) := by decide +kernel
theorem dX4_walkTo_130 : decode cX4_walkTo 130 = .ok (.goto (-71), 3) := by decide +kernel
theorem dX4_walkTo_133 : decode cX4_walkTo 133 = .ok (.lload 4, 2) := by decide +kernel
theorem dX4_walkTo_135 : decode cX4_walkTo 135 = .ok (.lreturn, 1) := by decide +kernel
def fX4_walkTo_59  : Nat → PH → Nat → Int32 → Int64 → Int32 → Int32 → Option (Int64 × PH)
  | 0, _, _, _, _, _, _ => none
  | n + 1, g, v0, v2, v4, v6, v7 =>
  if v7 < 0 then (some (v4, g)) else
  (if v6 ≤ 0 then (some (v4, g)) else
  ((getR g v0 4 12).bind fun p3 =>
  ((ldI g p3 0 v6).bind fun x5 =>
  ((getR g v0 4 2).bind fun p7 =>
  ((getR g v0 4 13).bind fun p9 =>
  ((ldI g p9 0 v6).bind fun x11 =>
  ((ldI g p7 0 x11).bind fun x13 =>
  ((getR g v0 4 13).bind fun p15 =>
  ((ldI g p15 0 v6).bind fun x17 =>
  ((getR g v0 4 11).bind fun p19 =>
  ((ldI g p19 0 x5).bind fun x21 =>
  ((fX4_packedStep g v0 x17 v7 x21).bind fun q23 =>
  (fX4_walkTo_59 n q23.2 v0 (v2 - x13) (v4 ||| (q23.1 <<< (((7 : Int32) * (v2 - x13)).toInt64 &&& 63))) x5 (v7 + (-1 : Int32)))))))))))))))
set_option maxHeartbeats 4000000 in
set_option maxRecDepth 100000 in
theorem bX4_walkTo_59 {K : HK} {E : HE} {r : Int64} {g' : PH}  (C : VC K E 9 cX4_walkTo RX4 (some .long))  : ∀ (n : Nat) (g : PH) (v0 : Nat) (v2 : Int32) (v4 : Int64) (v6 : Int32) (v7 : Int32), fX4_walkTo_59  n g v0 v2 v4 v6 v7 = some (r, g') → V K E (hRm 1 29 0 0) 9 (hZ K E (some (.long r)) g' 0 0) 0 0 (kS K) g 59 [(0, .ref v0), (2, .int v2), (4, .long v4), (6, .int v6), (7, .int v7)] [] := by
  intro n
  induction n with
  | zero =>
    intro g v0 v2 v4 v6 v7 hf
    rw [fX4_walkTo_59] at hf
    cases hf
  | succ n ih =>
    intro g v0 v2 v4 v6 v7 hf
    rw [fX4_walkTo_59] at hf
    refine V.iload (pc := 59) C dX4_walkTo_59 4 rfl ?_
    refine V.if_lt (pc := 61) (t := 133) C dX4_walkTo_61 (by decide) (fun c1 => ?_) (fun c1 => ?_)
    · replace hf := ite_t c1 hf
      refine V.lload (pc := 133) C dX4_walkTo_133 2 rfl ?_
      obtain ⟨f1, f2⟩ := fin2 hf
      clear hf
      subst f1
      subst f2
      exact V.lret (pc := 135) C rfl dX4_walkTo_135
    replace hf := ite_f c1 hf
    refine V.iload (pc := 64) C dX4_walkTo_64 3 rfl ?_
    refine V.if_le (pc := 66) (t := 133) C dX4_walkTo_66 (by decide) (fun c2 => ?_) (fun c2 => ?_)
    · replace hf := ite_t c2 hf
      refine V.lload (pc := 133) C dX4_walkTo_133 2 rfl ?_
      obtain ⟨f1, f2⟩ := fin2 hf
      clear hf
      subst f1
      subst f2
      exact V.lret (pc := 135) C rfl dX4_walkTo_135
    replace hf := ite_f c2 hf
    refine V.aload_n (pc := 69) C dX4_walkTo_69 0 rfl ?_
    replace hf := ob_some hf
    obtain ⟨p3, h4, hf⟩ := hf
    refine V.getR (pc := 70) C kX4 (k := 12) (by decide) wd_705 h4 dX4_walkTo_70 ?_
    refine V.iload (pc := 73) C dX4_walkTo_73 3 rfl ?_
    replace hf := ob_some hf
    obtain ⟨x5, h6, hf⟩ := hf
    refine V.iald (pc := 75) C h6 dX4_walkTo_75 ?_
    refine V.istore (pc := 76) (L' := [(8, .int x5), (0, .ref v0), (2, .int v2), (4, .long v4), (6, .int v6), (7, .int v7)]) C dX4_walkTo_76 (by decide) rfl ?_
    refine V.iload_n (pc := 78) C dX4_walkTo_78 2 rfl ?_
    refine V.aload_n (pc := 79) C dX4_walkTo_79 1 rfl ?_
    replace hf := ob_some hf
    obtain ⟨p7, h8, hf⟩ := hf
    refine V.getR (pc := 80) C kX4 (k := 2) (by decide) wd_695 h8 dX4_walkTo_80 ?_
    refine V.aload_n (pc := 83) C dX4_walkTo_83 1 rfl ?_
    replace hf := ob_some hf
    obtain ⟨p9, h10, hf⟩ := hf
    refine V.getR (pc := 84) C kX4 (k := 13) (by decide) wd_706 h10 dX4_walkTo_84 ?_
    refine V.iload (pc := 87) C dX4_walkTo_87 4 rfl ?_
    replace hf := ob_some hf
    obtain ⟨x11, h12, hf⟩ := hf
    refine V.iald (pc := 89) C h12 dX4_walkTo_89 ?_
    replace hf := ob_some hf
    obtain ⟨x13, h14, hf⟩ := hf
    refine V.iald (pc := 90) C h14 dX4_walkTo_90 ?_
    refine V.isub (pc := 91) C dX4_walkTo_91 ?_
    refine V.istore_n (pc := 92) (L' := [(2, .int (v2 - x13)), (8, .int x5), (0, .ref v0), (4, .long v4), (6, .int v6), (7, .int v7)]) C dX4_walkTo_92 (by decide) rfl ?_
    refine V.lload (pc := 93) C dX4_walkTo_93 3 rfl ?_
    refine V.aload_n (pc := 95) C dX4_walkTo_95 2 rfl ?_
    refine V.aload_n (pc := 96) C dX4_walkTo_96 2 rfl ?_
    replace hf := ob_some hf
    obtain ⟨p15, h16, hf⟩ := hf
    refine V.getR (pc := 97) C kX4 (k := 13) (by decide) wd_706 h16 dX4_walkTo_97 ?_
    refine V.iload (pc := 100) C dX4_walkTo_100 4 rfl ?_
    replace hf := ob_some hf
    obtain ⟨x17, h18, hf⟩ := hf
    refine V.iald (pc := 102) C h18 dX4_walkTo_102 ?_
    refine V.iload (pc := 103) C dX4_walkTo_103 5 rfl ?_
    refine V.aload_n (pc := 105) C dX4_walkTo_105 2 rfl ?_
    replace hf := ob_some hf
    obtain ⟨p19, h20, hf⟩ := hf
    refine V.getR (pc := 106) C kX4 (k := 11) (by decide) wd_704 h20 dX4_walkTo_106 ?_
    refine V.iload (pc := 109) C dX4_walkTo_109 1 rfl ?_
    replace hf := ob_some hf
    obtain ⟨x21, h22, hf⟩ := hf
    refine V.iald (pc := 111) C h22 dX4_walkTo_111 ?_
    replace hf := ob_some hf
    obtain ⟨q23, h24, hf⟩ := hf
    refine V.callV0l (pc := 112) C hyX4_packedStep wd_802 (mX4_packedStep (r := q23.1) (g' := q23.2) K.2.1 E (kS K) h24) rfl rfl rfl (oX4_packedStep h24) ⟨Nat.le_of_ble_eq_true rfl, Nat.le_of_ble_eq_true rfl⟩ (Nat.le_of_ble_eq_true rfl) dX4_walkTo_112 ⟨Nat.zero_le _, Nat.zero_le _⟩ rfl ?_
    refine V.bipush (pc := 115) C dX4_walkTo_115 (v := (7 : Int32)) (by decide) ?_
    refine V.iload_n (pc := 117) C dX4_walkTo_117 0 rfl ?_
    refine V.imul (pc := 118) C dX4_walkTo_118 ?_
    refine V.lshl (pc := 119) C dX4_walkTo_119 ?_
    refine V.lor (pc := 120) C dX4_walkTo_120 ?_
    refine V.lstore (pc := 121) (L' := [(4, .long (v4 ||| (q23.1 <<< (((7 : Int32) * (v2 - x13)).toInt64 &&& 63)))), (2, .int (v2 - x13)), (8, .int x5), (0, .ref v0), (6, .int v6), (7, .int v7)]) C dX4_walkTo_121 (by decide) rfl ?_
    refine V.iload (pc := 123) C dX4_walkTo_123 2 rfl ?_
    refine V.istore (pc := 125) (L' := [(6, .int x5), (4, .long (v4 ||| (q23.1 <<< (((7 : Int32) * (v2 - x13)).toInt64 &&& 63)))), (2, .int (v2 - x13)), (8, .int x5), (0, .ref v0), (7, .int v7)]) C dX4_walkTo_125 (by decide) rfl ?_
    refine V.iinc (pc := 127) (v := (v7 + (-1 : Int32))) (L' := [(7, .int (v7 + (-1 : Int32))), (6, .int x5), (4, .long (v4 ||| (q23.1 <<< (((7 : Int32) * (v2 - x13)).toInt64 &&& 63)))), (2, .int (v2 - x13)), (8, .int x5), (0, .ref v0)]) C dX4_walkTo_127 5 rfl rfl (by decide) rfl ?_
    refine V.goto (pc := 130) (t := 59) C dX4_walkTo_130 (by decide) ?_
    refine V.sub (L' := [(0, .ref v0), (2, .int (v2 - x13)), (4, .long (v4 ||| (q23.1 <<< (((7 : Int32) * (v2 - x13)).toInt64 &&& 63)))), (6, .int x5), (7, .int (v7 + (-1 : Int32)))]) [5, 3, 2, 1, 0] rfl ?_
    exact ih _ _ _ _ _ _ hf
def fX4_walkTo_48  (g : PH) (v0 : Nat) (v1 : Int32) (v2 : Int32) (v3 : Int32) : Option (Int64 × PH) :=
  fX4_walkTo_59 FUEL g v0 v2 (0 : Int64) v1 (v3 - (1 : Int32))
set_option maxHeartbeats 4000000 in
set_option maxRecDepth 100000 in
theorem bX4_walkTo_48 {K : HK} {E : HE} {r : Int64} {g' : PH}  (C : VC K E 9 cX4_walkTo RX4 (some .long))  {g : PH} {v0 : Nat} {v1 : Int32} {v2 : Int32} {v3 : Int32} (hf : fX4_walkTo_48  g v0 v1 v2 v3 = some (r, g')) : V K E (hRm 1 29 0 0) 9 (hZ K E (some (.long r)) g' 0 0) 0 0 (kS K) g 48 [(0, .ref v0), (1, .int v1), (2, .int v2), (3, .int v3)] [] := by
  unfold fX4_walkTo_48 at hf
  refine V.lconst (pc := 48) C dX4_walkTo_48 (v := (0 : Int64)) (by decide) ?_
  refine V.lstore (pc := 49) (L' := [(4, .long (0 : Int64)), (0, .ref v0), (1, .int v1), (2, .int v2), (3, .int v3)]) C dX4_walkTo_49 (by decide) rfl ?_
  refine V.iload_n (pc := 51) C dX4_walkTo_51 2 rfl ?_
  refine V.istore (pc := 52) (L' := [(6, .int v1), (4, .long (0 : Int64)), (0, .ref v0), (1, .int v1), (2, .int v2), (3, .int v3)]) C dX4_walkTo_52 (by decide) rfl ?_
  refine V.iload_n (pc := 54) C dX4_walkTo_54 5 rfl ?_
  refine V.iconst (pc := 55) C dX4_walkTo_55 (v := (1 : Int32)) (by decide) ?_
  refine V.isub (pc := 56) C dX4_walkTo_56 ?_
  refine V.istore (pc := 57) (L' := [(7, .int (v3 - (1 : Int32))), (6, .int v1), (4, .long (0 : Int64)), (0, .ref v0), (1, .int v1), (2, .int v2), (3, .int v3)]) C dX4_walkTo_57 (by decide) rfl ?_
  refine V.sub (L' := [(0, .ref v0), (2, .int v2), (4, .long (0 : Int64)), (6, .int v1), (7, .int (v3 - (1 : Int32)))]) [3, 5, 2, 1, 0] rfl ?_
  exact bX4_walkTo_59 C  _ _ _ _ _ _ _ hf
def fX4_walkTo_7  : Nat → PH → Nat → Int32 → Int32 → Int32 → Int32 → Option (Int64 × PH)
  | 0, _, _, _, _, _, _ => none
  | n + 1, g, v0, v1, v2, v3, v4 =>
  if v4 ≤ 0 then (fX4_walkTo_48 g v0 v1 v2 v3) else
  (if (9 : Int32) ≤ v3 then (fX4_walkTo_48 g v0 v1 v2 v3) else
  ((getR g v0 4 2).bind fun p3 =>
  ((getR g v0 4 13).bind fun p5 =>
  ((ldI g p5 0 v4).bind fun x7 =>
  ((ldI g p3 0 x7).bind fun x9 =>
  ((getR g v0 4 12).bind fun p11 =>
  ((ldI g p11 0 v4).bind fun x13 =>
  (fX4_walkTo_7 n g v0 v1 (v2 + x9) (v3 + (1 : Int32)) x13))))))))
set_option maxHeartbeats 4000000 in
set_option maxRecDepth 100000 in
theorem bX4_walkTo_7 {K : HK} {E : HE} {r : Int64} {g' : PH}  (C : VC K E 9 cX4_walkTo RX4 (some .long))  : ∀ (n : Nat) (g : PH) (v0 : Nat) (v1 : Int32) (v2 : Int32) (v3 : Int32) (v4 : Int32), fX4_walkTo_7  n g v0 v1 v2 v3 v4 = some (r, g') → V K E (hRm 1 29 0 0) 9 (hZ K E (some (.long r)) g' 0 0) 0 0 (kS K) g 7 [(0, .ref v0), (1, .int v1), (2, .int v2), (3, .int v3), (4, .int v4)] [] := by
  intro n
  induction n with
  | zero =>
    intro g v0 v1 v2 v3 v4 hf
    rw [fX4_walkTo_7] at hf
    cases hf
  | succ n ih =>
    intro g v0 v1 v2 v3 v4 hf
    rw [fX4_walkTo_7] at hf
    refine V.iload (pc := 7) C dX4_walkTo_7 4 rfl ?_
    refine V.if_le (pc := 9) (t := 48) C dX4_walkTo_9 (by decide) (fun c1 => ?_) (fun c1 => ?_)
    · replace hf := ite_t c1 hf
      refine V.sub (L' := [(0, .ref v0), (1, .int v1), (2, .int v2), (3, .int v3)]) [0, 1, 2, 3] rfl ?_
      exact bX4_walkTo_48 C  hf
    replace hf := ite_f c1 hf
    refine V.iload_n (pc := 12) C dX4_walkTo_12 3 rfl ?_
    refine V.bipush (pc := 13) C dX4_walkTo_13 (v := (9 : Int32)) (by decide) ?_
    refine V.icmp_ge (pc := 15) (t := 48) C dX4_walkTo_15 (by decide) (fun c2 => ?_) (fun c2 => ?_)
    · replace hf := ite_t c2 hf
      refine V.sub (L' := [(0, .ref v0), (1, .int v1), (2, .int v2), (3, .int v3)]) [0, 1, 2, 3] rfl ?_
      exact bX4_walkTo_48 C  hf
    replace hf := ite_f c2 hf
    refine V.iload_n (pc := 18) C dX4_walkTo_18 2 rfl ?_
    refine V.aload_n (pc := 19) C dX4_walkTo_19 0 rfl ?_
    replace hf := ob_some hf
    obtain ⟨p3, h4, hf⟩ := hf
    refine V.getR (pc := 20) C kX4 (k := 2) (by decide) wd_695 h4 dX4_walkTo_20 ?_
    refine V.aload_n (pc := 23) C dX4_walkTo_23 0 rfl ?_
    replace hf := ob_some hf
    obtain ⟨p5, h6, hf⟩ := hf
    refine V.getR (pc := 24) C kX4 (k := 13) (by decide) wd_706 h6 dX4_walkTo_24 ?_
    refine V.iload (pc := 27) C dX4_walkTo_27 4 rfl ?_
    replace hf := ob_some hf
    obtain ⟨x7, h8, hf⟩ := hf
    refine V.iald (pc := 29) C h8 dX4_walkTo_29 ?_
    replace hf := ob_some hf
    obtain ⟨x9, h10, hf⟩ := hf
    refine V.iald (pc := 30) C h10 dX4_walkTo_30 ?_
    refine V.iadd (pc := 31) C dX4_walkTo_31 ?_
    refine V.istore_n (pc := 32) (L' := [(2, .int (v2 + x9)), (0, .ref v0), (1, .int v1), (3, .int v3), (4, .int v4)]) C dX4_walkTo_32 (by decide) rfl ?_
    refine V.iinc (pc := 33) (v := (v3 + (1 : Int32))) (L' := [(3, .int (v3 + (1 : Int32))), (2, .int (v2 + x9)), (0, .ref v0), (1, .int v1), (4, .int v4)]) C dX4_walkTo_33 3 rfl rfl (by decide) rfl ?_
    refine V.aload_n (pc := 36) C dX4_walkTo_36 2 rfl ?_
    replace hf := ob_some hf
    obtain ⟨p11, h12, hf⟩ := hf
    refine V.getR (pc := 37) C kX4 (k := 12) (by decide) wd_705 h12 dX4_walkTo_37 ?_
    refine V.iload (pc := 40) C dX4_walkTo_40 4 rfl ?_
    replace hf := ob_some hf
    obtain ⟨x13, h14, hf⟩ := hf
    refine V.iald (pc := 42) C h14 dX4_walkTo_42 ?_
    refine V.istore (pc := 43) (L' := [(4, .int x13), (3, .int (v3 + (1 : Int32))), (2, .int (v2 + x9)), (0, .ref v0), (1, .int v1)]) C dX4_walkTo_43 (by decide) rfl ?_
    refine V.goto (pc := 45) (t := 7) C dX4_walkTo_45 (by decide) ?_
    refine V.sub (L' := [(0, .ref v0), (1, .int v1), (2, .int (v2 + x9)), (3, .int (v3 + (1 : Int32))), (4, .int x13)]) [3, 4, 2, 1, 0] rfl ?_
    exact ih _ _ _ _ _ _ hf
def fX4_walkTo (g : PH) (a0 : Nat) (a1 : Int32) : Option (Int64 × PH) :=
  okb (isO g a0 4) (fX4_walkTo_7 FUEL g a0 a1 (0 : Int32) (0 : Int32) a1)
theorem oX4_walkTo {g : PH} {a0 : Nat} {a1 : Int32} {q : (Int64 × PH)} (h : fX4_walkTo g a0 a1 = some q) : isO g a0 4 = true := by unfold fX4_walkTo at h; exact (okb_some h).1
theorem hyX4_walkTo : hMet yX4_walkTo RX4 cX4_walkTo 9 (some .long) 1 := ⟨wd_801, wd_800, ws_38, wd_15, rfl, by decide +kernel, by decide +kernel, by decide +kernel⟩
set_option maxHeartbeats 4000000 in
set_option maxRecDepth 100000 in
theorem mX4_walkTo (l : Launch) (E : HE) (sz : Nat) {g g' : PH} {a0 : Nat} {a1 : Int32} {r : Int64} (hf : fX4_walkTo g a0 a1 = some (r, g')) : hM l E yX4_walkTo cX4_walkTo 9 (some .long) 1 29 0 0 sz g [.ref a0, .int a1] (some (.long r)) g' := by
  refine hM.of (by decide) (Nat.le_of_ble_eq_true rfl) (fun K hl C hin hsz => ?_)
  subst hl
  subst hsz
  have C : VC K E 9 cX4_walkTo RX4 (some .long) := C
  unfold fX4_walkTo at hf
  replace hf := okb_some hf
  obtain ⟨ho, hf⟩ := hf
  refine V.start (L' := [(0, .ref a0), (1, .int a1)]) rfl ?_
  refine V.iconst (pc := 0) C dX4_walkTo_0 (v := (0 : Int32)) (by decide) ?_
  refine V.istore_n (pc := 1) (L' := [(2, .int (0 : Int32)), (0, .ref a0), (1, .int a1)]) C dX4_walkTo_1 (by decide) rfl ?_
  refine V.iconst (pc := 2) C dX4_walkTo_2 (v := (0 : Int32)) (by decide) ?_
  refine V.istore_n (pc := 3) (L' := [(3, .int (0 : Int32)), (2, .int (0 : Int32)), (0, .ref a0), (1, .int a1)]) C dX4_walkTo_3 (by decide) rfl ?_
  refine V.iload_n (pc := 4) C dX4_walkTo_4 3 rfl ?_
  refine V.istore (pc := 5) (L' := [(4, .int a1), (3, .int (0 : Int32)), (2, .int (0 : Int32)), (0, .ref a0), (1, .int a1)]) C dX4_walkTo_5 (by decide) rfl ?_
  refine V.sub (L' := [(0, .ref a0), (1, .int a1), (2, .int (0 : Int32)), (3, .int (0 : Int32)), (4, .int a1)]) [3, 4, 2, 1, 0] rfl ?_
  exact bX4_walkTo_7 C  _ _ _ _ _ _ _ hf
theorem dX4_solve_0 : decode cX4_solve 0 = .ok (.iload_n 1, 1) := by decide +kernel
theorem dX4_solve_1 : decode cX4_solve 1 = .ok (.ifCond .le 21, 3) := by decide +kernel
theorem dX4_solve_4 : decode cX4_solve 4 = .ok (.iload_n 1, 1) := by decide +kernel
theorem dX4_solve_5 : decode cX4_solve 5 = .ok (.aload_n 0, 1) := by decide +kernel
theorem dX4_solve_6 : decode cX4_solve 6 = .ok (.getfield 9, 3) := by decide +kernel
theorem dX4_solve_9 : decode cX4_solve 9 = .ok (.arraylength, 1) := by decide +kernel
theorem dX4_solve_10 : decode cX4_solve 10 = .ok (.if_icmp .ge 12, 3) := by decide +kernel
theorem dX4_solve_13 : decode cX4_solve 13 = .ok (.aload_n 0, 1) := by decide +kernel
theorem dX4_solve_14 : decode cX4_solve 14 = .ok (.getfield 9, 3) := by decide +kernel
theorem dX4_solve_17 : decode cX4_solve 17 = .ok (.iload_n 1, 1) := by decide +kernel
theorem dX4_solve_18 : decode cX4_solve 18 = .ok (.iaload, 1) := by decide +kernel
theorem dX4_solve_19 : decode cX4_solve 19 = .ok (.ifCond .eq 4, 3) := by decide +kernel
theorem dX4_solve_22 : decode cX4_solve 22 = .ok (.return_, 1) := by decide +kernel
theorem dX4_solve_23 : decode cX4_solve 23 = .ok (.aload_n 0, 1) := by decide +kernel
theorem dX4_solve_24 : decode cX4_solve 24 = .ok (.iconst 0, 1) := by decide +kernel
theorem dX4_solve_25 : decode cX4_solve 25 = .ok (.putfield 39, 3) := by decide +kernel
theorem dX4_solve_28 : decode cX4_solve 28 = .ok (.iconst 0, 1) := by decide +kernel
theorem dX4_solve_29 : decode cX4_solve 29 = .ok (.istore_n 3, 1) := by decide +kernel
theorem dX4_solve_30 : decode cX4_solve 30 = .ok (.iload_n 3, 1) := by decide +kernel
theorem dX4_solve_31 : decode cX4_solve 31 = .ok (.bipush 8, 2) := by decide +kernel
theorem dX4_solve_33 : decode cX4_solve 33 = .ok (.if_icmp .ge 73, 3) := by decide +kernel
theorem dX4_solve_36 : decode cX4_solve 36 = .ok (.iload_n 3, 1) := by decide +kernel
theorem dX4_solve_37 : decode cX4_solve 37 = .ok (.aload_n 2, 1) := by decide +kernel
theorem dX4_solve_38 : decode cX4_solve 38 = .ok (.arraylength, 1) := by decide +kernel
theorem dX4_solve_39 : decode cX4_solve 39 = .ok (.if_icmp .ge 67, 3) := by decide +kernel
theorem dX4_solve_42 : decode cX4_solve 42 = .ok (.iload_n 1, 1) := by decide +kernel
theorem dX4_solve_43 : decode cX4_solve 43 = .ok (.iload_n 3, 1) := by decide +kernel
theorem dX4_solve_44 : decode cX4_solve 44 = .ok (.ishr, 1) := by decide +kernel
theorem dX4_solve_45 : decode cX4_solve 45 = .ok (.iconst 1, 1) := by decide +kernel
theorem dX4_solve_46 : decode cX4_solve 46 = .ok (.iand, 1) := by decide +kernel
theorem dX4_solve_47 : decode cX4_solve 47 = .ok (.iconst 1, 1) := by decide +kernel
theorem dX4_solve_48 : decode cX4_solve 48 = .ok (.if_icmp .ne 52, 3) := by decide +kernel
theorem dX4_solve_51 : decode cX4_solve 51 = .ok (.aload_n 2, 1) := by decide +kernel
theorem dX4_solve_52 : decode cX4_solve 52 = .ok (.iload_n 3, 1) := by decide +kernel
theorem dX4_solve_53 : decode cX4_solve 53 = .ok (.aaload, 1) := by decide +kernel
theorem dX4_solve_54 : decode cX4_solve 54 = .ok (.ifnull 46, 3) := by decide +kernel
theorem dX4_solve_57 : decode cX4_solve 57 = .ok (.aload_n 0, 1) := by decide +kernel
theorem dX4_solve_58 : decode cX4_solve 58 = .ok (.iload_n 3, 1) := by decide +kernel
theorem dX4_solve_59 : decode cX4_solve 59 = .ok (.aload_n 2, 1) := by decide +kernel
theorem dX4_solve_60 : decode cX4_solve 60 = .ok (.iload_n 3, 1) := by decide +kernel
theorem dX4_solve_61 : decode cX4_solve 61 = .ok (.aaload, 1) := by decide +kernel
theorem dX4_solve_62 : decode cX4_solve 62 = .ok (.invokevirtual 69, 3) := by decide +kernel
theorem dX4_solve_65 : decode cX4_solve 65 = .ok (.aload_n 0, 1) := by decide +kernel
theorem dX4_solve_66 : decode cX4_solve 66 = .ok (.getfield 36, 3) := by decide +kernel
theorem dX4_solve_69 : decode cX4_solve 69 = .ok (.aload_n 0, 1) := by decide +kernel
theorem dX4_solve_70 : decode cX4_solve 70 = .ok (.getfield 39, 3) := by decide +kernel
theorem dX4_solve_73 : decode cX4_solve 73 = .ok (.iload_n 3, 1) := by decide +kernel
theorem dX4_solve_74 : decode cX4_solve 74 = .ok (.iastore, 1) := by decide +kernel
theorem dX4_solve_75 : decode cX4_solve 75 = .ok (.aload_n 0, 1) := by decide +kernel
theorem dX4_solve_76 : decode cX4_solve 76 = .ok (.getfield 45, 3) := by decide +kernel
theorem dX4_solve_79 : decode cX4_solve 79 = .ok (.aload_n 0, 1) := by decide +kernel
theorem dX4_solve_80 : decode cX4_solve 80 = .ok (.getfield 39, 3) := by decide +kernel
theorem dX4_solve_83 : decode cX4_solve 83 = .ok (.aload_n 2, 1) := by decide +kernel
theorem dX4_solve_84 : decode cX4_solve 84 = .ok (.iload_n 3, 1) := by decide +kernel
theorem dX4_solve_85 : decode cX4_solve 85 = .ok (.aaload, 1) := by decide +kernel
theorem dX4_solve_86 : decode cX4_solve 86 = .ok (.invokestatic 73, 3) := by decide +kernel
theorem dX4_solve_89 : decode cX4_solve 89 = .ok (.iastore, 1) := by decide +kernel
theorem dX4_solve_90 : decode cX4_solve 90 = .ok (.aload_n 0, 1) := by decide +kernel
theorem dX4_solve_91 : decode cX4_solve 91 = .ok (.dup, 1) := by decide +kernel
theorem dX4_solve_92 : decode cX4_solve 92 = .ok (.getfield 39, 3) := by decide +kernel
theorem dX4_solve_95 : decode cX4_solve 95 = .ok (.iconst 1, 1) := by decide +kernel
theorem dX4_solve_96 : decode cX4_solve 96 = .ok (.iadd, 1) := by decide +kernel
theorem dX4_solve_97 : decode cX4_solve 97 = .ok (.putfield 39, 3) := by decide +kernel
theorem dX4_solve_100 : decode cX4_solve 100 = .ok (.iinc 3 1, 3) := by decide +kernel
theorem dX4_solve_103 : decode cX4_solve 103 = .ok (.goto (-73), 3) := by decide +kernel
theorem dX4_solve_106 : decode cX4_solve 106 = .ok (.aload_n 0, 1) := by decide +kernel
theorem dX4_solve_107 : decode cX4_solve 107 = .ok (.getfield 57, 3) := by decide +kernel
theorem dX4_solve_110 : decode cX4_solve 110 = .ok (.iconst 0, 1) := by decide +kernel
theorem dX4_solve_111 : decode cX4_solve 111 = .ok (.invokestatic 77, 3) := by decide +kernel
theorem dX4_solve_114 : decode cX4_solve 114 = .ok (.aload_n 0, 1) := by decide +kernel
theorem dX4_solve_115 : decode cX4_solve 115 = .ok (.getfield 48, 3) := by decide +kernel
theorem dX4_solve_118 : decode cX4_solve 118 = .ok (.iconst 0, 1) := by decide +kernel
theorem dX4_solve_119 : decode cX4_solve 119 = .ok (.iconst 0, 1) := by decide +kernel
theorem dX4_solve_120 : decode cX4_solve 120 = .ok (.iastore, 1) := by decide +kernel
theorem dX4_solve_121 : decode cX4_solve 121 = .ok (.aload_n 0, 1) := by decide +kernel
theorem dX4_solve_122 : decode cX4_solve 122 = .ok (.getfield 57, 3) := by decide +kernel
theorem dX4_solve_125 : decode cX4_solve 125 = .ok (.aload_n 0, 1) := by decide +kernel
theorem dX4_solve_126 : decode cX4_solve 126 = .ok (.iconst 0, 1) := by decide +kernel
theorem dX4_solve_127 : decode cX4_solve 127 = .ok (.invokevirtual 83, 3) := by decide +kernel
theorem dX4_solve_130 : decode cX4_solve 130 = .ok (.iconst 1, 1) := by decide +kernel
theorem dX4_solve_131 : decode cX4_solve 131 = .ok (.iastore, 1) := by decide +kernel
theorem dX4_solve_132 : decode cX4_solve 132 = .ok (.aload_n 0, 1) := by decide +kernel
theorem dX4_solve_133 : decode cX4_solve 133 = .ok (.iconst 1, 1) := by decide +kernel
theorem dX4_solve_134 : decode cX4_solve 134 = .ok (.putfield 42, 3) := by decide +kernel
theorem dX4_solve_137 : decode cX4_solve 137 = .ok (.aload_n 0, 1) := by decide +kernel
theorem dX4_solve_138 : decode cX4_solve 138 = .ok (.getfield 9, 3) := by decide +kernel
theorem dX4_solve_141 : decode cX4_solve 141 = .ok (.iload_n 1, 1) := by decide +kernel
theorem dX4_solve_142 : decode cX4_solve 142 = .ok (.aload_n 0, 1) := by decide +kernel
theorem dX4_solve_143 : decode cX4_solve 143 = .ok (.invokevirtual 87, 3) := by decide +kernel
theorem dX4_solve_146 : decode cX4_solve 146 = .ok (.iastore, 1) := by decide +kernel
theorem dX4_solve_147 : decode cX4_solve 147 = .ok (.aload_n 0, 1) := by decide +kernel
theorem dX4_solve_148 : decode cX4_solve 148 = .ok (.getfield 9, 3) := by decide +kernel
theorem dX4_solve_151 : decode cX4_solve 151 = .ok (.iload_n 1, 1) := by decide +kernel
theorem dX4_solve_152 : decode cX4_solve 152 = .ok (.iaload, 1) := by decide +kernel
theorem dX4_solve_153 : decode cX4_solve 153 = .ok (.ifCond .le 17, 3) := by decide +kernel
theorem dX4_solve_156 : decode cX4_solve 156 = .ok (.aload_n 0, 1) := by decide +kernel
theorem dX4_solve_157 : decode cX4_solve 157 = .ok (.getfield 15, 3) := by decide +kernel
theorem dX4_solve_160 : decode cX4_solve 160 = .ok (.iload_n 1, 1) := by decide +kernel
theorem dX4_solve_161 : decode cX4_solve 161 = .ok (.aload_n 0, 1) := by decide +kernel
theorem dX4_solve_162 : decode cX4_solve 162 = .ok (.aload_n 0, 1) := by decide +kernel
theorem dX4_solve_163 : decode cX4_solve 163 = .ok (.getfield 42, 3) := by decide +kernel
theorem dX4_solve_166 : decode cX4_solve 166 = .ok (.invokevirtual 91, 3) := by decide +kernel
theorem dX4_solve_169 : decode cX4_solve 169 = .ok (.lastore, 1) := by decide +kernel
theorem dX4_solve_170 : decode cX4_solve 170 = .ok (.return_, 1) := by decide +kernel
def fX4_solve_100 (k30 : PH → Nat → Int32 → Nat → Int32 → Option (Unit × PH)) (g : PH) (v0 : Nat) (v1 : Int32) (v2 : Nat) (v3 : Int32) : Option (Unit × PH) :=
  k30 g v0 v1 v2 (v3 + (1 : Int32))
set_option maxHeartbeats 4000000 in
set_option maxRecDepth 100000 in
theorem bX4_solve_100 {K : HK} {E : HE} {r : Unit} {g' : PH} {k30 : PH → Nat → Int32 → Nat → Int32 → Option (Unit × PH)} (C : VC K E 4 cX4_solve RX4 none) (hk30 : ∀ (g : PH) (v0 : Nat) (v1 : Int32) (v2 : Nat) (v3 : Int32), k30 g v0 v1 v2 v3 = some (r, g') → V K E (hRm 5 121 0 0) 4 (hZ K E none g' 0 0) 0 0 (kS K) g 30 [(0, .ref v0), (1, .int v1), (2, .ref v2), (3, .int v3)] []) {g : PH} {v0 : Nat} {v1 : Int32} {v2 : Nat} {v3 : Int32} (hf : fX4_solve_100 k30 g v0 v1 v2 v3 = some (r, g')) : V K E (hRm 5 121 0 0) 4 (hZ K E none g' 0 0) 0 0 (kS K) g 100 [(0, .ref v0), (1, .int v1), (2, .ref v2), (3, .int v3)] [] := by
  unfold fX4_solve_100 at hf
  refine V.iinc (pc := 100) (v := (v3 + (1 : Int32))) (L' := [(3, .int (v3 + (1 : Int32))), (0, .ref v0), (1, .int v1), (2, .ref v2)]) C dX4_solve_100 3 rfl rfl (by decide) rfl ?_
  refine V.goto (pc := 103) (t := 30) C dX4_solve_103 (by decide) ?_
  refine V.sub (L' := [(0, .ref v0), (1, .int v1), (2, .ref v2), (3, .int (v3 + (1 : Int32)))]) [1, 2, 3, 0] rfl ?_
  exact hk30 _ _ _ _ _ hf
def fX4_solve_106  (g : PH) (v0 : Nat) (v1 : Int32) : Option (Unit × PH) :=
  (getR g v0 4 14).bind fun p1 =>
  ((fJ7_fill_53178 g p1 (0 : Int32)).bind fun q3 =>
  ((getR q3.2 v0 4 11).bind fun p5 =>
  ((stI q3.2 p5 0 (0 : Int32) (0 : Int32)).bind fun g7 =>
  ((getR g7 v0 4 14).bind fun p9 =>
  ((fX4_slotOf g7 v0 (0 : Int32)).bind fun q11 =>
  ((stI q11.2 p9 0 q11.1 (1 : Int32)).bind fun g13 =>
  ((putV g13 v0 4 9 (.int (1 : Int32))).bind fun g15 =>
  ((getR g15 v0 4 0).bind fun p17 =>
  ((fX4_explore g15 v0).bind fun q19 =>
  ((stI q19.2 p17 0 v1 q19.1).bind fun g21 =>
  ((getR g21 v0 4 0).bind fun p23 =>
  ((ldI g21 p23 0 v1).bind fun x25 =>
  (if x25 ≤ 0 then (some ((), g21)) else
  ((getR g21 v0 4 1).bind fun p28 =>
  ((getI g21 v0 4 9).bind fun x30 =>
  ((fX4_walkTo g21 v0 x30).bind fun q32 =>
  ((stL q32.2 p28 v1 q32.1).bind fun g34 =>
  (some ((), g34)))))))))))))))))))
set_option maxHeartbeats 4000000 in
set_option maxRecDepth 100000 in
theorem bX4_solve_106 {K : HK} {E : HE} {r : Unit} {g' : PH}  (C : VC K E 4 cX4_solve RX4 none)  {g : PH} {v0 : Nat} {v1 : Int32} (hf : fX4_solve_106  g v0 v1 = some (r, g')) : V K E (hRm 5 121 0 0) 4 (hZ K E none g' 0 0) 0 0 (kS K) g 106 [(0, .ref v0), (1, .int v1)] [] := by
  unfold fX4_solve_106 at hf
  refine V.aload_n (pc := 106) C dX4_solve_106 0 rfl ?_
  replace hf := ob_some hf
  obtain ⟨p1, h2, hf⟩ := hf
  refine V.getR (pc := 107) C kX4 (k := 14) (by decide) wd_707 h2 dX4_solve_107 ?_
  refine V.iconst (pc := 110) C dX4_solve_110 (v := (0 : Int32)) (by decide) ?_
  replace hf := ob_some hf
  obtain ⟨q3, h4, hf⟩ := hf
  refine V.callS0v (pc := 111) C hyJ7_fill_53178 wd_766 (mJ7_fill_53178 (r := q3.1) (g' := q3.2) K.2.1 E (kS K) h4) rfl ⟨Nat.le_of_ble_eq_true rfl, Nat.le_of_ble_eq_true rfl⟩ (Nat.le_of_ble_eq_true rfl) dX4_solve_111 ⟨Nat.zero_le _, Nat.zero_le _⟩ rfl ?_
  refine V.aload_n (pc := 114) C dX4_solve_114 0 rfl ?_
  replace hf := ob_some hf
  obtain ⟨p5, h6, hf⟩ := hf
  refine V.getR (pc := 115) C kX4 (k := 11) (by decide) wd_704 h6 dX4_solve_115 ?_
  refine V.iconst (pc := 118) C dX4_solve_118 (v := (0 : Int32)) (by decide) ?_
  refine V.iconst (pc := 119) C dX4_solve_119 (v := (0 : Int32)) (by decide) ?_
  replace hf := ob_some hf
  obtain ⟨g7, h8, hf⟩ := hf
  refine V.iast (pc := 120) C h8 dX4_solve_120 ?_
  refine V.aload_n (pc := 121) C dX4_solve_121 0 rfl ?_
  replace hf := ob_some hf
  obtain ⟨p9, h10, hf⟩ := hf
  refine V.getR (pc := 122) C kX4 (k := 14) (by decide) wd_707 h10 dX4_solve_122 ?_
  refine V.aload_n (pc := 125) C dX4_solve_125 0 rfl ?_
  refine V.iconst (pc := 126) C dX4_solve_126 (v := (0 : Int32)) (by decide) ?_
  replace hf := ob_some hf
  obtain ⟨q11, h12, hf⟩ := hf
  refine V.callV0i (pc := 127) C hyX4_slotOf wd_769 (mX4_slotOf (r := q11.1) (g' := q11.2) K.2.1 E (kS K) h12) rfl rfl rfl (oX4_slotOf h12) ⟨Nat.le_of_ble_eq_true rfl, Nat.le_of_ble_eq_true rfl⟩ (Nat.le_of_ble_eq_true rfl) dX4_solve_127 ⟨Nat.zero_le _, Nat.zero_le _⟩ rfl ?_
  refine V.iconst (pc := 130) C dX4_solve_130 (v := (1 : Int32)) (by decide) ?_
  replace hf := ob_some hf
  obtain ⟨g13, h14, hf⟩ := hf
  refine V.iast (pc := 131) C h14 dX4_solve_131 ?_
  refine V.aload_n (pc := 132) C dX4_solve_132 0 rfl ?_
  refine V.iconst (pc := 133) C dX4_solve_133 (v := (1 : Int32)) (by decide) ?_
  replace hf := ob_some hf
  obtain ⟨g15, h16, hf⟩ := hf
  refine V.putX (pc := 134) C kX4 (k := 9) (by decide) wd_702 rfl rfl rfl h16 dX4_solve_134 ?_
  refine V.aload_n (pc := 137) C dX4_solve_137 0 rfl ?_
  replace hf := ob_some hf
  obtain ⟨p17, h18, hf⟩ := hf
  refine V.getR (pc := 138) C kX4 (k := 0) (by decide) wd_693 h18 dX4_solve_138 ?_
  refine V.iload_n (pc := 141) C dX4_solve_141 1 rfl ?_
  refine V.aload_n (pc := 142) C dX4_solve_142 0 rfl ?_
  replace hf := ob_some hf
  obtain ⟨q19, h20, hf⟩ := hf
  refine V.callV0i (pc := 143) C hyX4_explore wd_778 (mX4_explore (r := q19.1) (g' := q19.2) K.2.1 E (kS K) h20) rfl rfl rfl (oX4_explore h20) ⟨Nat.le_of_ble_eq_true rfl, Nat.le_of_ble_eq_true rfl⟩ (Nat.le_of_ble_eq_true rfl) dX4_solve_143 ⟨Nat.zero_le _, Nat.zero_le _⟩ rfl ?_
  replace hf := ob_some hf
  obtain ⟨g21, h22, hf⟩ := hf
  refine V.iast (pc := 146) C h22 dX4_solve_146 ?_
  refine V.aload_n (pc := 147) C dX4_solve_147 0 rfl ?_
  replace hf := ob_some hf
  obtain ⟨p23, h24, hf⟩ := hf
  refine V.getR (pc := 148) C kX4 (k := 0) (by decide) wd_693 h24 dX4_solve_148 ?_
  refine V.iload_n (pc := 151) C dX4_solve_151 1 rfl ?_
  replace hf := ob_some hf
  obtain ⟨x25, h26, hf⟩ := hf
  refine V.iald (pc := 152) C h26 dX4_solve_152 ?_
  refine V.if_le (pc := 153) (t := 170) C dX4_solve_153 (by decide) (fun c27 => ?_) (fun c27 => ?_)
  · replace hf := ite_t c27 hf
    obtain ⟨f1, f2⟩ := fin2 hf
    clear hf
    subst f1
    subst f2
    exact V.vret (pc := 170) C rfl dX4_solve_170
  replace hf := ite_f c27 hf
  refine V.aload_n (pc := 156) C dX4_solve_156 0 rfl ?_
  replace hf := ob_some hf
  obtain ⟨p28, h29, hf⟩ := hf
  refine V.getR (pc := 157) C kX4 (k := 1) (by decide) wd_694 h29 dX4_solve_157 ?_
  refine V.iload_n (pc := 160) C dX4_solve_160 1 rfl ?_
  refine V.aload_n (pc := 161) C dX4_solve_161 0 rfl ?_
  refine V.aload_n (pc := 162) C dX4_solve_162 0 rfl ?_
  replace hf := ob_some hf
  obtain ⟨x30, h31, hf⟩ := hf
  refine V.getI (pc := 163) C kX4 (k := 9) (by decide) wd_702 h31 dX4_solve_163 ?_
  replace hf := ob_some hf
  obtain ⟨q32, h33, hf⟩ := hf
  refine V.callV0l (pc := 166) C hyX4_walkTo wd_798 (mX4_walkTo (r := q32.1) (g' := q32.2) K.2.1 E (kS K) h33) rfl rfl rfl (oX4_walkTo h33) ⟨Nat.le_of_ble_eq_true rfl, Nat.le_of_ble_eq_true rfl⟩ (Nat.le_of_ble_eq_true rfl) dX4_solve_166 ⟨Nat.zero_le _, Nat.zero_le _⟩ rfl ?_
  replace hf := ob_some hf
  obtain ⟨g34, h35, hf⟩ := hf
  refine V.last (pc := 169) C h35 dX4_solve_169 ?_
  obtain ⟨f1, f2⟩ := fin2 hf
  clear hf
  subst f1
  subst f2
  exact V.vret (pc := 170) C rfl dX4_solve_170
def fX4_solve_30  : Nat → PH → Nat → Int32 → Nat → Int32 → Option (Unit × PH)
  | 0, _, _, _, _, _ => none
  | n + 1, g, v0, v1, v2, v3 =>
  if (8 : Int32) ≤ v3 then (fX4_solve_106 g v0 v1) else
  ((alen g v2).bind fun x2 =>
  (if x2 ≤ v3 then (fX4_solve_106 g v0 v1) else
  (if ((v1 >>> (v3 &&& 31)) &&& (1 : Int32)) = (1 : Int32) then ((ldQ g v2 4 v3).bind fun q6 =>
  (q6.elim (fX4_solve_100 (fX4_solve_30 n) g v0 v1 v2 v3) (fun p8 =>
  (ldQ g v2 4 v3).bind fun q9 =>
  (q9.bind fun p11 =>
  ((fX4_learn g v0 v3 p11).bind fun q13 =>
  ((getR q13.2 v0 4 7).bind fun p15 =>
  ((getI q13.2 v0 4 8).bind fun x17 =>
  ((stI q13.2 p15 0 x17 v3).bind fun g19 =>
  ((getR g19 v0 4 10).bind fun p21 =>
  ((getI g19 v0 4 8).bind fun x23 =>
  ((ldQ g19 v2 4 v3).bind fun q25 =>
  (q25.bind fun p27 =>
  ((fX4_firstCode g19 p27).bind fun q29 =>
  ((stI q29.2 p21 0 x23 q29.1).bind fun g31 =>
  ((getI g31 v0 4 8).bind fun x33 =>
  ((putV g31 v0 4 8 (.int (x33 + (1 : Int32)))).bind fun g35 =>
  (fX4_solve_100 (fX4_solve_30 n) g35 v0 v1 v2 v3))))))))))))))))) else
  (fX4_solve_100 (fX4_solve_30 n) g v0 v1 v2 v3))))
set_option maxHeartbeats 4000000 in
set_option maxRecDepth 100000 in
theorem bX4_solve_30 {K : HK} {E : HE} {r : Unit} {g' : PH}  (C : VC K E 4 cX4_solve RX4 none)  : ∀ (n : Nat) (g : PH) (v0 : Nat) (v1 : Int32) (v2 : Nat) (v3 : Int32), fX4_solve_30  n g v0 v1 v2 v3 = some (r, g') → V K E (hRm 5 121 0 0) 4 (hZ K E none g' 0 0) 0 0 (kS K) g 30 [(0, .ref v0), (1, .int v1), (2, .ref v2), (3, .int v3)] [] := by
  intro n
  induction n with
  | zero =>
    intro g v0 v1 v2 v3 hf
    rw [fX4_solve_30] at hf
    cases hf
  | succ n ih =>
    intro g v0 v1 v2 v3 hf
    rw [fX4_solve_30] at hf
    refine V.iload_n (pc := 30) C dX4_solve_30 3 rfl ?_
    refine V.bipush (pc := 31) C dX4_solve_31 (v := (8 : Int32)) (by decide) ?_
    refine V.icmp_ge (pc := 33) (t := 106) C dX4_solve_33 (by decide) (fun c1 => ?_) (fun c1 => ?_)
    · replace hf := ite_t c1 hf
      refine V.sub (L' := [(0, .ref v0), (1, .int v1)]) [0, 1] rfl ?_
      exact bX4_solve_106 C  hf
    replace hf := ite_f c1 hf
    refine V.iload_n (pc := 36) C dX4_solve_36 3 rfl ?_
    refine V.aload_n (pc := 37) C dX4_solve_37 2 rfl ?_
    replace hf := ob_some hf
    obtain ⟨x2, h3, hf⟩ := hf
    refine V.alen (pc := 38) C h3 dX4_solve_38 ?_
    refine V.icmp_ge (pc := 39) (t := 106) C dX4_solve_39 (by decide) (fun c4 => ?_) (fun c4 => ?_)
    · replace hf := ite_t c4 hf
      refine V.sub (L' := [(0, .ref v0), (1, .int v1)]) [0, 1] rfl ?_
      exact bX4_solve_106 C  hf
    replace hf := ite_f c4 hf
    refine V.iload_n (pc := 42) C dX4_solve_42 1 rfl ?_
    refine V.iload_n (pc := 43) C dX4_solve_43 3 rfl ?_
    refine V.ishr (pc := 44) C dX4_solve_44 ?_
    refine V.iconst (pc := 45) C dX4_solve_45 (v := (1 : Int32)) (by decide) ?_
    refine V.iand (pc := 46) C dX4_solve_46 ?_
    refine V.iconst (pc := 47) C dX4_solve_47 (v := (1 : Int32)) (by decide) ?_
    refine V.icmp_ne (pc := 48) (t := 100) C dX4_solve_48 (by decide) (fun c5 => ?_) (fun c5 => ?_)
    · replace hf := ite_f c5 hf
      refine V.sub (L' := [(0, .ref v0), (1, .int v1), (2, .ref v2), (3, .int v3)]) [0, 1, 2, 3] rfl ?_
      exact bX4_solve_100 C ih hf
    replace hf := ite_t c5 hf
    refine V.aload_n (pc := 51) C dX4_solve_51 2 rfl ?_
    refine V.iload_n (pc := 52) C dX4_solve_52 3 rfl ?_
    replace hf := ob_some hf
    obtain ⟨q6, h7, hf⟩ := hf
    refine V.aald4 (pc := 53) C h7 dX4_solve_53 ?_
    rcases q6 with _ | p8
    · refine V.ifnullN (pc := 54) (t := 100) C dX4_solve_54 (by decide) ?_
      refine V.sub (L' := [(0, .ref v0), (1, .int v1), (2, .ref v2), (3, .int v3)]) [0, 1, 2, 3] rfl ?_
      exact bX4_solve_100 C ih hf
    refine V.ifnull (pc := 54) C dX4_solve_54 ?_
    refine V.aload_n (pc := 57) C dX4_solve_57 0 rfl ?_
    refine V.iload_n (pc := 58) C dX4_solve_58 3 rfl ?_
    refine V.aload_n (pc := 59) C dX4_solve_59 2 rfl ?_
    refine V.iload_n (pc := 60) C dX4_solve_60 3 rfl ?_
    replace hf := ob_some hf
    obtain ⟨q9, h10, hf⟩ := hf
    refine V.aald4 (pc := 61) C h10 dX4_solve_61 ?_
    replace hf := ob_some hf
    obtain ⟨p11, h12, hf⟩ := hf
    subst h12
    replace hf := ob_some hf
    obtain ⟨q13, h14, hf⟩ := hf
    refine V.callV0v (pc := 62) C hyX4_learn wd_748 (mX4_learn (r := q13.1) (g' := q13.2) K.2.1 E (kS K) h14) rfl rfl rfl (oX4_learn h14) ⟨Nat.le_of_ble_eq_true rfl, Nat.le_of_ble_eq_true rfl⟩ (Nat.le_of_ble_eq_true rfl) dX4_solve_62 ⟨Nat.zero_le _, Nat.zero_le _⟩ rfl ?_
    refine V.aload_n (pc := 65) C dX4_solve_65 0 rfl ?_
    replace hf := ob_some hf
    obtain ⟨p15, h16, hf⟩ := hf
    refine V.getR (pc := 66) C kX4 (k := 7) (by decide) wd_700 h16 dX4_solve_66 ?_
    refine V.aload_n (pc := 69) C dX4_solve_69 0 rfl ?_
    replace hf := ob_some hf
    obtain ⟨x17, h18, hf⟩ := hf
    refine V.getI (pc := 70) C kX4 (k := 8) (by decide) wd_701 h18 dX4_solve_70 ?_
    refine V.iload_n (pc := 73) C dX4_solve_73 3 rfl ?_
    replace hf := ob_some hf
    obtain ⟨g19, h20, hf⟩ := hf
    refine V.iast (pc := 74) C h20 dX4_solve_74 ?_
    refine V.aload_n (pc := 75) C dX4_solve_75 0 rfl ?_
    replace hf := ob_some hf
    obtain ⟨p21, h22, hf⟩ := hf
    refine V.getR (pc := 76) C kX4 (k := 10) (by decide) wd_703 h22 dX4_solve_76 ?_
    refine V.aload_n (pc := 79) C dX4_solve_79 0 rfl ?_
    replace hf := ob_some hf
    obtain ⟨x23, h24, hf⟩ := hf
    refine V.getI (pc := 80) C kX4 (k := 8) (by decide) wd_701 h24 dX4_solve_80 ?_
    refine V.aload_n (pc := 83) C dX4_solve_83 2 rfl ?_
    refine V.iload_n (pc := 84) C dX4_solve_84 3 rfl ?_
    replace hf := ob_some hf
    obtain ⟨q25, h26, hf⟩ := hf
    refine V.aald4 (pc := 85) C h26 dX4_solve_85 ?_
    replace hf := ob_some hf
    obtain ⟨p27, h28, hf⟩ := hf
    subst h28
    replace hf := ob_some hf
    obtain ⟨q29, h30, hf⟩ := hf
    refine V.callS0i (pc := 86) C hyX4_firstCode wd_762 (mX4_firstCode (r := q29.1) (g' := q29.2) K.2.1 E (kS K) h30) rfl ⟨Nat.le_of_ble_eq_true rfl, Nat.le_of_ble_eq_true rfl⟩ (Nat.le_of_ble_eq_true rfl) dX4_solve_86 ⟨Nat.zero_le _, Nat.zero_le _⟩ rfl ?_
    replace hf := ob_some hf
    obtain ⟨g31, h32, hf⟩ := hf
    refine V.iast (pc := 89) C h32 dX4_solve_89 ?_
    refine V.aload_n (pc := 90) C dX4_solve_90 0 rfl ?_
    refine V.dup (pc := 91) C dX4_solve_91 rfl ?_
    replace hf := ob_some hf
    obtain ⟨x33, h34, hf⟩ := hf
    refine V.getI (pc := 92) C kX4 (k := 8) (by decide) wd_701 h34 dX4_solve_92 ?_
    refine V.iconst (pc := 95) C dX4_solve_95 (v := (1 : Int32)) (by decide) ?_
    refine V.iadd (pc := 96) C dX4_solve_96 ?_
    replace hf := ob_some hf
    obtain ⟨g35, h36, hf⟩ := hf
    refine V.putX (pc := 97) C kX4 (k := 8) (by decide) wd_701 rfl rfl rfl h36 dX4_solve_97 ?_
    refine V.sub (L' := [(0, .ref v0), (1, .int v1), (2, .ref v2), (3, .int v3)]) [0, 1, 2, 3] rfl ?_
    exact bX4_solve_100 C ih hf
def fX4_solve (g : PH) (a0 : Nat) (a1 : Int32) (a2 : Nat) : Option (Unit × PH) :=
  okb (isO g a0 4) (if a1 ≤ 0 then (some ((), g)) else
  ((getR g a0 4 0).bind fun p2 =>
  ((alen g p2).bind fun x4 =>
  (if x4 ≤ a1 then (some ((), g)) else
  ((getR g a0 4 0).bind fun p7 =>
  ((ldI g p7 0 a1).bind fun x9 =>
  (if x9 = 0 then ((putV g a0 4 8 (.int (0 : Int32))).bind fun g12 =>
  (fX4_solve_30 FUEL g12 a0 a1 a2 (0 : Int32))) else
  (some ((), g)))))))))
theorem oX4_solve {g : PH} {a0 : Nat} {a1 : Int32} {a2 : Nat} {q : (Unit × PH)} (h : fX4_solve g a0 a1 a2 = some q) : isO g a0 4 = true := by unfold fX4_solve at h; exact (okb_some h).1
theorem hyX4_solve : hMet yX4_solve RX4 cX4_solve 4 none 2 := ⟨wd_747, wd_745, wd_746, wd_15, rfl, by decide +kernel, by decide +kernel, by decide +kernel⟩
set_option maxHeartbeats 4000000 in
set_option maxRecDepth 100000 in
theorem mX4_solve (l : Launch) (E : HE) (sz : Nat) {g g' : PH} {a0 : Nat} {a1 : Int32} {a2 : Nat} {r : Unit} (hf : fX4_solve g a0 a1 a2 = some (r, g')) : hM l E yX4_solve cX4_solve 4 none 5 121 0 0 sz g [.ref a0, .int a1, .ref a2] none g' := by
  refine hM.of (by decide) (Nat.le_of_ble_eq_true rfl) (fun K hl C hin hsz => ?_)
  subst hl
  subst hsz
  have C : VC K E 4 cX4_solve RX4 none := C
  unfold fX4_solve at hf
  replace hf := okb_some hf
  obtain ⟨ho, hf⟩ := hf
  refine V.start (L' := [(0, .ref a0), (1, .int a1), (2, .ref a2)]) rfl ?_
  refine V.iload_n (pc := 0) C dX4_solve_0 1 rfl ?_
  refine V.if_le (pc := 1) (t := 22) C dX4_solve_1 (by decide) (fun c1 => ?_) (fun c1 => ?_)
  · replace hf := ite_t c1 hf
    obtain ⟨f1, f2⟩ := fin2 hf
    clear hf
    subst f1
    subst f2
    exact V.vret (pc := 22) C rfl dX4_solve_22
  replace hf := ite_f c1 hf
  refine V.iload_n (pc := 4) C dX4_solve_4 1 rfl ?_
  refine V.aload_n (pc := 5) C dX4_solve_5 0 rfl ?_
  replace hf := ob_some hf
  obtain ⟨p2, h3, hf⟩ := hf
  refine V.getR (pc := 6) C kX4 (k := 0) (by decide) wd_693 h3 dX4_solve_6 ?_
  replace hf := ob_some hf
  obtain ⟨x4, h5, hf⟩ := hf
  refine V.alen (pc := 9) C h5 dX4_solve_9 ?_
  refine V.icmp_ge (pc := 10) (t := 22) C dX4_solve_10 (by decide) (fun c6 => ?_) (fun c6 => ?_)
  · replace hf := ite_t c6 hf
    obtain ⟨f1, f2⟩ := fin2 hf
    clear hf
    subst f1
    subst f2
    exact V.vret (pc := 22) C rfl dX4_solve_22
  replace hf := ite_f c6 hf
  refine V.aload_n (pc := 13) C dX4_solve_13 0 rfl ?_
  replace hf := ob_some hf
  obtain ⟨p7, h8, hf⟩ := hf
  refine V.getR (pc := 14) C kX4 (k := 0) (by decide) wd_693 h8 dX4_solve_14 ?_
  refine V.iload_n (pc := 17) C dX4_solve_17 1 rfl ?_
  replace hf := ob_some hf
  obtain ⟨x9, h10, hf⟩ := hf
  refine V.iald (pc := 18) C h10 dX4_solve_18 ?_
  refine V.if_eq (pc := 19) (t := 23) C dX4_solve_19 (by decide) (fun c11 => ?_) (fun c11 => ?_)
  · replace hf := ite_t c11 hf
    refine V.aload_n (pc := 23) C dX4_solve_23 0 rfl ?_
    refine V.iconst (pc := 24) C dX4_solve_24 (v := (0 : Int32)) (by decide) ?_
    replace hf := ob_some hf
    obtain ⟨g12, h13, hf⟩ := hf
    refine V.putX (pc := 25) C kX4 (k := 8) (by decide) wd_701 rfl rfl rfl h13 dX4_solve_25 ?_
    refine V.iconst (pc := 28) C dX4_solve_28 (v := (0 : Int32)) (by decide) ?_
    refine V.istore_n (pc := 29) (L' := [(3, .int (0 : Int32)), (0, .ref a0), (1, .int a1), (2, .ref a2)]) C dX4_solve_29 (by decide) rfl ?_
    refine V.sub (L' := [(0, .ref a0), (1, .int a1), (2, .ref a2), (3, .int (0 : Int32))]) [1, 2, 3, 0] rfl ?_
    exact bX4_solve_30 C  _ _ _ _ _ _ hf
  replace hf := ite_f c11 hf
  obtain ⟨f1, f2⟩ := fin2 hf
  clear hf
  subst f1
  subst f2
  exact V.vret (pc := 22) C rfl dX4_solve_22
