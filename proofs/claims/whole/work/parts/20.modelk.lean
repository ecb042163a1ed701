theorem dX9_areAlike_0 : decode cX9_areAlike 0 = .ok (.aload_n 0, 1) := by decide +kernel
theorem dX9_areAlike_1 : decode cX9_areAlike 1 = .ok (.getfield 72, 3) := by decide +kernel
theorem dX9_areAlike_4 : decode cX9_areAlike 4 = .ok (.iload_n 1, 1) := by decide +kernel
theorem dX9_areAlike_5 : decode cX9_areAlike 5 = .ok (.iaload, 1) := by decide +kernel
theorem dX9_areAlike_6 : decode cX9_areAlike 6 = .ok (.aload_n 0, 1) := by decide +kernel
theorem dX9_areAlike_7 : decode cX9_areAlike 7 = .ok (.getfield 72, 3) := by decide +kernel
theorem dX9_areAlike_10 : decode cX9_areAlike 10 = .ok (.iload_n 2, 1) := by decide +kernel
theorem dX9_areAlike_11 : decode cX9_areAlike 11 = .ok (.iaload, 1) := by decide +kernel
theorem dX9_areAlike_12 : decode cX9_areAlike 12 = .ok (.if_icmp .eq 5, 3) := by decide +kernel
theorem dX9_areAlike_15 : decode cX9_areAlike 15 = .ok (.iconst 0, 1) := by decide +kernel
theorem dX9_areAlike_16 : decode cX9_areAlike 16 = .ok (.ireturn, 1) := by decide +kernel
theorem dX9_areAlike_17 : decode cX9_areAlike 17 = .ok (.iconst 0, 1) := by decide +kernel
theorem dX9_areAlike_18 : decode cX9_areAlike 18 = .ok (.istore_n 3, 1) := by decide +kernel
theorem dX9_areAlike_19 : decode cX9_areAlike 19 = .ok (.iload_n 3, 1) := by decide +kernel
theorem dX9_areAlike_20 : decode cX9_areAlike 20 = .ok (.iconst 2, 1) := by decide +kernel
theorem dX9_areAlike_21 : decode cX9_areAlike 21 = .ok (.aload_n 0, 1) := by decide +kernel
theorem dX9_areAlike_22 : decode cX9_areAlike 22 = .ok (.getfield 72, 3) := by decide +kernel
theorem dX9_areAlike_25 : decode cX9_areAlike 25 = .ok (.iload_n 1, 1) := by decide +kernel
theorem dX9_areAlike_26 : decode cX9_areAlike 26 = .ok (.iaload, 1) := by decide +kernel
theorem dX9_areAlike_27 : decode cX9_areAlike 27 = .ok (.imul, 1) := by decide +kernel
theorem dX9_areAlike_28 : decode cX9_areAlike 28 = .ok (.if_icmp .ge 42, 3) := by decide +kernel
theorem dX9_areAlike_31 : decode cX9_areAlike 31 = .ok (.iload_n 3, 1) := by decide +kernel
theorem dX9_areAlike_32 : decode cX9_areAlike 32 = .ok (.bipush 120, 2) := by decide +kernel
theorem dX9_areAlike_34 : decode cX9_areAlike 34 = .ok (.if_icmp .ge 36, 3) := by decide +kernel
theorem dX9_areAlike_37 : decode cX9_areAlike 37 = .ok (.aload_n 0, 1) := by decide +kernel
theorem dX9_areAlike_38 : decode cX9_areAlike 38 = .ok (.getfield 75, 3) := by decide +kernel
theorem dX9_areAlike_41 : decode cX9_areAlike 41 = .ok (.bipush 120, 2) := by decide +kernel
theorem dX9_areAlike_43 : decode cX9_areAlike 43 = .ok (.iload_n 1, 1) := by decide +kernel
theorem dX9_areAlike_44 : decode cX9_areAlike 44 = .ok (.imul, 1) := by decide +kernel
theorem dX9_areAlike_45 : decode cX9_areAlike 45 = .ok (.iload_n 3, 1) := by decide +kernel
theorem dX9_areAlike_46 : decode cX9_areAlike 46 = .ok (.iadd, 1) := by decide +kernel
theorem dX9_areAlike_47 : decode cX9_areAlike 47 = .ok (.iaload, 1) := by decide +kernel
theorem dX9_areAlike_48 : decode cX9_areAlike 48 = .ok (.aload_n 0, 1) := by decide +kernel
theorem dX9_areAlike_49 : decode cX9_areAlike 49 = .ok (.getfield 75, 3) := by decide +kernel
theorem dX9_areAlike_52 : decode cX9_areAlike 52 = .ok (.bipush 120, 2) := by decide +kernel
theorem dX9_areAlike_54 : decode cX9_areAlike 54 = .ok (.iload_n 2, 1) := by decide +kernel
theorem dX9_areAlike_55 : decode cX9_areAlike 55 = .ok (.imul, 1) := by decide +kernel
theorem dX9_areAlike_56 : decode cX9_areAlike 56 = .ok (.iload_n 3, 1) := by decide +kernel
theorem dX9_areAlike_57 : decode cX9_areAlike 57 = .ok (.iadd, 1) := by decide +kernel
theorem dX9_areAlike_58 : decode cX9_areAlike 58 = .ok (.iaload, 1) := by decide +kernel
theorem dX9_areAlike_59 : decode cX9_areAlike 59 = .ok (.if_icmp .eq 5, 3) := by decide +kernel
theorem dX9_areAlike_62 : decode cX9_areAlike 62 = .ok (.iconst 0, 1) := by decide +kernel
theorem dX9_areAlike_63 : decode cX9_areAlike 63 = .ok (.ireturn, 1) := by decide +kernel
theorem dX9_areAlike_64 : decode cX9_areAlike 64 = .ok (.iinc 3 1, 3) := by decide +kernel
theorem dX9_areAlike_67 : decode cX9_areAlike 67 = .ok (.goto (-48), 3) := by decide +kernel
theorem dX9_areAlike_70 : decode cX9_areAlike 70 = .ok (.iconst 1, 1) := by decide +kernel
theorem dX9_areAlike_71 : decode cX9_areAlike 71 = .ok (.ireturn, 1) := by decide +kernel
def fX9_areAlike_19  : Nat → PH → Nat → Int32 → Int32 → Int32 → Option (Int32 × PH)
  | 0, _, _, _, _, _ => none
  | n + 1, g, v0, v1, v2, v3 =>
  (getR g v0 9 37).bind fun p1 =>
  ((ldI g p1 0 v1).bind fun x3 =>
  (if ((2 : Int32) * x3) ≤ v3 then (some ((1 : Int32), g)) else
  (if (120 : Int32) ≤ v3 then (some ((1 : Int32), g)) else
  ((getR g v0 9 38).bind fun p7 =>
  ((ldI g p7 0 (((120 : Int32) * v1) + v3)).bind fun x9 =>
  ((getR g v0 9 38).bind fun p11 =>
  ((ldI g p11 0 (((120 : Int32) * v2) + v3)).bind fun x13 =>
  (if x9 = x13 then (fX9_areAlike_19 n g v0 v1 v2 (v3 + (1 : Int32))) else
  (some ((0 : Int32), g))))))))))
set_option maxHeartbeats 4000000 in
set_option maxRecDepth 100000 in
theorem bX9_areAlike_19 {K : HK} {E : HE} {r : Int32} {g' : PH}  (C : VC K E 4 cX9_areAlike RX9 (some .boolean))  : ∀ (n : Nat) (g : PH) (v0 : Nat) (v1 : Int32) (v2 : Int32) (v3 : Int32), fX9_areAlike_19  n g v0 v1 v2 v3 = some (r, g') → V K E (hRm 0 0 0 0) 4 (hZ K E (some (.int r)) g' 0 0) 0 0 (kS K) g 19 [(0, .ref v0), (1, .int v1), (2, .int v2), (3, .int v3)] [] := by
  intro n
  induction n with
  | zero =>
    intro g v0 v1 v2 v3 hf
    rw [fX9_areAlike_19] at hf
    cases hf
  | succ n ih =>
    intro g v0 v1 v2 v3 hf
    rw [fX9_areAlike_19] at hf
    refine V.iload_n (pc := 19) C dX9_areAlike_19 3 rfl ?_
    refine V.iconst (pc := 20) C dX9_areAlike_20 (v := (2 : Int32)) (by decide) ?_
    refine V.aload_n (pc := 21) C dX9_areAlike_21 0 rfl ?_
    replace hf := ob_some hf
    obtain ⟨p1, h2, hf⟩ := hf
    refine V.getR (pc := 22) C kX9 (k := 37) (by decide) wd_1087 h2 dX9_areAlike_22 ?_
    refine V.iload_n (pc := 25) C dX9_areAlike_25 1 rfl ?_
    replace hf := ob_some hf
    obtain ⟨x3, h4, hf⟩ := hf
    refine V.iald (pc := 26) C h4 dX9_areAlike_26 ?_
    refine V.imul (pc := 27) C dX9_areAlike_27 ?_
    refine V.icmp_ge (pc := 28) (t := 70) C dX9_areAlike_28 (by decide) (fun c5 => ?_) (fun c5 => ?_)
    · replace hf := ite_t c5 hf
      refine V.iconst (pc := 70) C dX9_areAlike_70 (v := (1 : Int32)) (by decide) ?_
      obtain ⟨f1, f2⟩ := fin2 hf
      clear hf
      subst f1
      subst f2
      exact V.zret (pc := 71) C rfl rfl dX9_areAlike_71
    replace hf := ite_f c5 hf
    refine V.iload_n (pc := 31) C dX9_areAlike_31 3 rfl ?_
    refine V.bipush (pc := 32) C dX9_areAlike_32 (v := (120 : Int32)) (by decide) ?_
    refine V.icmp_ge (pc := 34) (t := 70) C dX9_areAlike_34 (by decide) (fun c6 => ?_) (fun c6 => ?_)
    · replace hf := ite_t c6 hf
      refine V.iconst (pc := 70) C dX9_areAlike_70 (v := (1 : Int32)) (by decide) ?_
      obtain ⟨f1, f2⟩ := fin2 hf
      clear hf
      subst f1
      subst f2
      exact V.zret (pc := 71) C rfl rfl dX9_areAlike_71
    replace hf := ite_f c6 hf
    refine V.aload_n (pc := 37) C dX9_areAlike_37 0 rfl ?_
    replace hf := ob_some hf
    obtain ⟨p7, h8, hf⟩ := hf
    refine V.getR (pc := 38) C kX9 (k := 38) (by decide) wd_1088 h8 dX9_areAlike_38 ?_
    refine V.bipush (pc := 41) C dX9_areAlike_41 (v := (120 : Int32)) (by decide) ?_
    refine V.iload_n (pc := 43) C dX9_areAlike_43 1 rfl ?_
    refine V.imul (pc := 44) C dX9_areAlike_44 ?_
    refine V.iload_n (pc := 45) C dX9_areAlike_45 3 rfl ?_
    refine V.iadd (pc := 46) C dX9_areAlike_46 ?_
    replace hf := ob_some hf
    obtain ⟨x9, h10, hf⟩ := hf
    refine V.iald (pc := 47) C h10 dX9_areAlike_47 ?_
    refine V.aload_n (pc := 48) C dX9_areAlike_48 0 rfl ?_
    replace hf := ob_some hf
    obtain ⟨p11, h12, hf⟩ := hf
    refine V.getR (pc := 49) C kX9 (k := 38) (by decide) wd_1088 h12 dX9_areAlike_49 ?_
    refine V.bipush (pc := 52) C dX9_areAlike_52 (v := (120 : Int32)) (by decide) ?_
    refine V.iload_n (pc := 54) C dX9_areAlike_54 2 rfl ?_
    refine V.imul (pc := 55) C dX9_areAlike_55 ?_
    refine V.iload_n (pc := 56) C dX9_areAlike_56 3 rfl ?_
    refine V.iadd (pc := 57) C dX9_areAlike_57 ?_
    replace hf := ob_some hf
    obtain ⟨x13, h14, hf⟩ := hf
    refine V.iald (pc := 58) C h14 dX9_areAlike_58 ?_
    refine V.icmp_eq (pc := 59) (t := 64) C dX9_areAlike_59 (by decide) (fun c15 => ?_) (fun c15 => ?_)
    · replace hf := ite_t c15 hf
      refine V.iinc (pc := 64) (v := (v3 + (1 : Int32))) (L' := [(3, .int (v3 + (1 : Int32))), (0, .ref v0), (1, .int v1), (2, .int v2)]) C dX9_areAlike_64 3 rfl rfl (by decide) rfl ?_
      refine V.goto (pc := 67) (t := 19) C dX9_areAlike_67 (by decide) ?_
      refine V.sub (L' := [(0, .ref v0), (1, .int v1), (2, .int v2), (3, .int (v3 + (1 : Int32)))]) [1, 2, 3, 0] rfl ?_
      exact ih _ _ _ _ _ hf
    replace hf := ite_f c15 hf
    refine V.iconst (pc := 62) C dX9_areAlike_62 (v := (0 : Int32)) (by decide) ?_
    obtain ⟨f1, f2⟩ := fin2 hf
    clear hf
    subst f1
    subst f2
    exact V.zret (pc := 63) C rfl rfl dX9_areAlike_63
def fX9_areAlike (g : PH) (a0 : Nat) (a1 : Int32) (a2 : Int32) : Option (Int32 × PH) :=
  okb (isO g a0 9) ((getR g a0 9 37).bind fun p1 =>
  ((ldI g p1 0 a1).bind fun x3 =>
  ((getR g a0 9 37).bind fun p5 =>
  ((ldI g p5 0 a2).bind fun x7 =>
  (if x3 = x7 then (fX9_areAlike_19 FUEL g a0 a1 a2 (0 : Int32)) else
  (some ((0 : Int32), g)))))))
theorem oX9_areAlike {g : PH} {a0 : Nat} {a1 : Int32} {a2 : Int32} {q : (Int32 × PH)} (h : fX9_areAlike g a0 a1 a2 = some q) : isO g a0 9 = true := by unfold fX9_areAlike at h; exact (okb_some h).1
theorem hyX9_areAlike : hMet yX9_areAlike RX9 cX9_areAlike 4 (some .boolean) 2 := ⟨wd_1564, wd_1563, ws_115, wd_7, rfl, by decide +kernel, by decide +kernel, by decide +kernel⟩
set_option maxHeartbeats 4000000 in
set_option maxRecDepth 100000 in
theorem mX9_areAlike (l : Launch) (E : HE) (sz : Nat) {g g' : PH} {a0 : Nat} {a1 : Int32} {a2 : Int32} {r : Int32} (hf : fX9_areAlike g a0 a1 a2 = some (r, g')) : hM l E yX9_areAlike cX9_areAlike 4 (some .boolean) 0 0 0 0 sz g [.ref a0, .int a1, .int a2] (some (.int r)) g' := by
  refine hM.of (by decide) (Nat.le_of_ble_eq_true rfl) (fun K hl C hin hsz => ?_)
  subst hl
  subst hsz
  have C : VC K E 4 cX9_areAlike RX9 (some .boolean) := C
  unfold fX9_areAlike at hf
  replace hf := okb_some hf
  obtain ⟨ho, hf⟩ := hf
  refine V.start (L' := [(0, .ref a0), (1, .int a1), (2, .int a2)]) rfl ?_
  refine V.aload_n (pc := 0) C dX9_areAlike_0 0 rfl ?_
  replace hf := ob_some hf
  obtain ⟨p1, h2, hf⟩ := hf
  refine V.getR (pc := 1) C kX9 (k := 37) (by decide) wd_1087 h2 dX9_areAlike_1 ?_
  refine V.iload_n (pc := 4) C dX9_areAlike_4 1 rfl ?_
  replace hf := ob_some hf
  obtain ⟨x3, h4, hf⟩ := hf
  refine V.iald (pc := 5) C h4 dX9_areAlike_5 ?_
  refine V.aload_n (pc := 6) C dX9_areAlike_6 0 rfl ?_
  replace hf := ob_some hf
  obtain ⟨p5, h6, hf⟩ := hf
  refine V.getR (pc := 7) C kX9 (k := 37) (by decide) wd_1087 h6 dX9_areAlike_7 ?_
  refine V.iload_n (pc := 10) C dX9_areAlike_10 2 rfl ?_
  replace hf := ob_some hf
  obtain ⟨x7, h8, hf⟩ := hf
  refine V.iald (pc := 11) C h8 dX9_areAlike_11 ?_
  refine V.icmp_eq (pc := 12) (t := 17) C dX9_areAlike_12 (by decide) (fun c9 => ?_) (fun c9 => ?_)
  · replace hf := ite_t c9 hf
    refine V.iconst (pc := 17) C dX9_areAlike_17 (v := (0 : Int32)) (by decide) ?_
    refine V.istore_n (pc := 18) (L' := [(3, .int (0 : Int32)), (0, .ref a0), (1, .int a1), (2, .int a2)]) C dX9_areAlike_18 (by decide) rfl ?_
    refine V.sub (L' := [(0, .ref a0), (1, .int a1), (2, .int a2), (3, .int (0 : Int32))]) [1, 2, 3, 0] rfl ?_
    exact bX9_areAlike_19 C  _ _ _ _ _ _ hf
  replace hf := ite_f c9 hf
  refine V.iconst (pc := 15) C dX9_areAlike_15 (v := (0 : Int32)) (by decide) ?_
  obtain ⟨f1, f2⟩ := fin2 hf
  clear hf
  subst f1
  subst f2
  exact V.zret (pc := 16) C rfl rfl dX9_areAlike_16
theorem dX9_partsOf_0 : decode cX9_partsOf 0 = .ok (.aload_n 0, 1) := by decide +kernel
theorem dX9_partsOf_1 : decode cX9_partsOf 1 = .ok (.invokevirtual 270, 3) := by decide +kernel
theorem dX9_partsOf_4 : decode cX9_partsOf 4 = .ok (.iconst 0, 1) := by decide +kernel
theorem dX9_partsOf_5 : decode cX9_partsOf 5 = .ok (.istore_n 2, 1) := by decide +kernel
theorem dX9_partsOf_6 : decode cX9_partsOf 6 = .ok (.iload_n 2, 1) := by decide +kernel
theorem dX9_partsOf_7 : decode cX9_partsOf 7 = .ok (.aload_n 0, 1) := by decide +kernel
theorem dX9_partsOf_8 : decode cX9_partsOf 8 = .ok (.getfield 364, 3) := by decide +kernel
theorem dX9_partsOf_11 : decode cX9_partsOf 11 = .ok (.if_icmp .ge 99, 3) := by decide +kernel
theorem dX9_partsOf_14 : decode cX9_partsOf 14 = .ok (.aload_n 0, 1) := by decide +kernel
theorem dX9_partsOf_15 : decode cX9_partsOf 15 = .ok (.aload_n 0, 1) := by decide +kernel
theorem dX9_partsOf_16 : decode cX9_partsOf 16 = .ok (.getfield 69, 3) := by decide +kernel
theorem dX9_partsOf_19 : decode cX9_partsOf 19 = .ok (.iconst 3, 1) := by decide +kernel
theorem dX9_partsOf_20 : decode cX9_partsOf 20 = .ok (.iload_n 2, 1) := by decide +kernel
theorem dX9_partsOf_21 : decode cX9_partsOf 21 = .ok (.imul, 1) := by decide +kernel
theorem dX9_partsOf_22 : decode cX9_partsOf 22 = .ok (.iaload, 1) := by decide +kernel
theorem dX9_partsOf_23 : decode cX9_partsOf 23 = .ok (.aload_n 0, 1) := by decide +kernel
theorem dX9_partsOf_24 : decode cX9_partsOf 24 = .ok (.getfield 69, 3) := by decide +kernel
theorem dX9_partsOf_27 : decode cX9_partsOf 27 = .ok (.iconst 3, 1) := by decide +kernel
theorem dX9_partsOf_28 : decode cX9_partsOf 28 = .ok (.iload_n 2, 1) := by decide +kernel
theorem dX9_partsOf_29 : decode cX9_partsOf 29 = .ok (.imul, 1) := by decide +kernel
theorem dX9_partsOf_30 : decode cX9_partsOf 30 = .ok (.iconst 1, 1) := by decide +kernel
theorem dX9_partsOf_31 : decode cX9_partsOf 31 = .ok (.iadd, 1) := by decide +kernel
theorem dX9_partsOf_32 : decode cX9_partsOf 32 = .ok (.iaload, 1) := by decide +kernel
theorem dX9_partsOf_33 : decode cX9_partsOf 33 = .ok (.aload_n 0, 1) := by decide +kernel
theorem dX9_partsOf_34 : decode cX9_partsOf 34 = .ok (.getfield 69, 3) := by decide +kernel
theorem dX9_partsOf_37 : decode cX9_partsOf 37 = .ok (.iconst 3, 1) := by decide +kernel
theorem dX9_partsOf_38 : decode cX9_partsOf 38 = .ok (.iload_n 2, 1) := by decide +kernel
theorem dX9_partsOf_39 : decode cX9_partsOf 39 = .ok (.imul, 1) := by decide +kernel
theorem dX9_partsOf_40 : decode cX9_partsOf 40 = .ok (.iconst 2, 1) := by decide +kernel
theorem dX9_partsOf_41 : decode cX9_partsOf 41 = .ok (.iadd, 1) := by decide +kernel
theorem dX9_partsOf_42 : decode cX9_partsOf 42 = .ok (.iaload, 1) := by decide +kernel
theorem dX9_partsOf_43 : decode cX9_partsOf 43 = .ok (.iconst 0, 1) := by decide +kernel
theorem dX9_partsOf_44 : decode cX9_partsOf 44 = .ok (.invokevirtual 249, 3) := by decide +kernel
theorem dX9_partsOf_47 : decode cX9_partsOf 47 = .ok (.aload_n 0, 1) := by decide +kernel
theorem dX9_partsOf_48 : decode cX9_partsOf 48 = .ok (.iload_n 1, 1) := by decide +kernel
theorem dX9_partsOf_49 : decode cX9_partsOf 49 = .ok (.iconst 0, 1) := by decide +kernel
theorem dX9_partsOf_50 : decode cX9_partsOf 50 = .ok (.invokevirtual 252, 3) := by decide +kernel
theorem dX9_partsOf_53 : decode cX9_partsOf 53 = .ok (.aload_n 0, 1) := by decide +kernel
theorem dX9_partsOf_54 : decode cX9_partsOf 54 = .ok (.getfield 72, 3) := by decide +kernel
theorem dX9_partsOf_57 : decode cX9_partsOf 57 = .ok (.iload_n 2, 1) := by decide +kernel
theorem dX9_partsOf_58 : decode cX9_partsOf 58 = .ok (.aload_n 0, 1) := by decide +kernel
theorem dX9_partsOf_59 : decode cX9_partsOf 59 = .ok (.getfield 222, 3) := by decide +kernel
theorem dX9_partsOf_62 : decode cX9_partsOf 62 = .ok (.iastore, 1) := by decide +kernel
theorem dX9_partsOf_63 : decode cX9_partsOf 63 = .ok (.iconst 0, 1) := by decide +kernel
theorem dX9_partsOf_64 : decode cX9_partsOf 64 = .ok (.istore_n 3, 1) := by decide +kernel
theorem dX9_partsOf_65 : decode cX9_partsOf 65 = .ok (.iload_n 3, 1) := by decide +kernel
theorem dX9_partsOf_66 : decode cX9_partsOf 66 = .ok (.iconst 2, 1) := by decide +kernel
theorem dX9_partsOf_67 : decode cX9_partsOf 67 = .ok (.aload_n 0, 1) := by decide +kernel
theorem dX9_partsOf_68 : decode cX9_partsOf 68 = .ok (.getfield 222, 3) := by decide +kernel
theorem dX9_partsOf_71 : decode cX9_partsOf 71 = .ok (.imul, 1) := by decide +kernel
theorem dX9_partsOf_72 : decode cX9_partsOf 72 = .ok (.if_icmp .ge 32, 3) := by decide +kernel
theorem dX9_partsOf_75 : decode cX9_partsOf 75 = .ok (.iload_n 3, 1) := by decide +kernel
theorem dX9_partsOf_76 : decode cX9_partsOf 76 = .ok (.bipush 120, 2) := by decide +kernel
theorem dX9_partsOf_78 : decode cX9_partsOf 78 = .ok (.if_icmp .ge 26, 3) := by decide +kernel
theorem dX9_partsOf_81 : decode cX9_partsOf 81 = .ok (.aload_n 0, 1) := by decide +kernel
theorem dX9_partsOf_82 : decode cX9_partsOf 82 = .ok (.getfield 75, 3) := by decide +kernel
theorem dX9_partsOf_85 : decode cX9_partsOf 85 = .ok (.bipush 120, 2) := by decide +kernel
theorem dX9_partsOf_87 : decode cX9_partsOf 87 = .ok (.iload_n 2, 1) := by decide +kernel
theorem dX9_partsOf_88 : decode cX9_partsOf 88 = .ok (.imul, 1) := by decide +kernel
theorem dX9_partsOf_89 : decode cX9_partsOf 89 = .ok (.iload_n 3, 1) := by decide +kernel
theorem dX9_partsOf_90 : decode cX9_partsOf 90 = .ok (.iadd, 1) := by decide +kernel
theorem dX9_partsOf_91 : decode cX9_partsOf 91 = .ok (.aload_n 0, 1) := by decide +kernel
theorem dX9_partsOf_92 : decode cX9_partsOf 92 = .ok (.getfield 41, 3) := by decide +kernel
theorem dX9_partsOf_95 : decode cX9_partsOf 95 = .ok (.iload_n 3, 1) := by decide +kernel
theorem dX9_partsOf_96 : decode cX9_partsOf 96 = .ok (.iaload, 1) := by decide +kernel
theorem dX9_partsOf_97 : decode cX9_partsOf 97 = .ok (.iastore, 1) := by decide +kernel
theorem dX9_partsOf_98 : decode cX9_partsOf 98 = .ok (.iinc 3 1, 3) := by decide +kernel
theorem dX9_partsOf_101 : decode cX9_partsOf 101 = .ok (.goto (-36), 3) := by decide +kernel
theorem dX9_partsOf_104 : decode cX9_partsOf 104 = .ok (.iinc 2 1, 3) := by decide +kernel
theorem dX9_partsOf_107 : decode cX9_partsOf 107 = .ok (.goto (-101), 3) := by decide +kernel
theorem dX9_partsOf_110 : decode cX9_partsOf 110 = .ok (.aload_n 0, 1) := by decide +kernel
theorem dX9_partsOf_111 : decode cX9_partsOf 111 = .ok (.invokevirtual 282, 3) := by decide +kernel
theorem dX9_partsOf_114 : decode cX9_partsOf 114 = .ok (.iconst 0, 1) := by decide +kernel
theorem dX9_partsOf_115 : decode cX9_partsOf 115 = .ok (.istore_n 2, 1) := by decide +kernel
theorem dX9_partsOf_116 : decode cX9_partsOf 116 = .ok (.iconst 0, 1) := by decide +kernel
theorem dX9_partsOf_117 : decode cX9_partsOf 117 = .ok (.istore_n 3, 1) := by decide +kernel
theorem dX9_partsOf_118 : decode cX9_partsOf 118 = .ok (.iload_n 3, 1) := by decide +kernel
theorem dX9_partsOf_119 : decode cX9_partsOf 119 = .ok (.aload_n 0, 1) := by decide +kernel
theorem dX9_partsOf_120 : decode cX9_partsOf 120 = .ok (.getfield 364, 3) := by decide +kernel
theorem dX9_partsOf_123 : decode cX9_partsOf 123 = .ok (.if_icmp .ge 63, 3) := by decide +kernel
theorem dX9_partsOf_126 : decode cX9_partsOf 126 = .ok (.iconst 0, 1) := by decide +kernel
theorem dX9_partsOf_127 : decode cX9_partsOf 127 = .ok (.istore 4, 2) := by decide +kernel
theorem dX9_partsOf_129 : decode cX9_partsOf 129 = .ok (.iconst 0, 1) := by decide +kernel
theorem dX9_partsOf_130 : decode cX9_partsOf 130 = .ok (.istore 5, 2) := by decide +kernel
theorem dX9_partsOf_132 : decode cX9_partsOf 132 = .ok (.iload 5, 2) := by decide +kernel
theorem dX9_partsOf_134 : decode cX9_partsOf 134 = .ok (.aload_n 0, 1) := by decide +kernel
theorem dX9_partsOf_135 : decode cX9_partsOf 135 = .ok (.getfield 364, 3) := by decide +kernel
theorem dX9_partsOf_138 : decode cX9_partsOf 138 = .ok (.if_icmp .ge 29, 3) := by decide +kernel
theorem dX9_partsOf_141 : decode cX9_partsOf 141 = .ok (.iload 4, 2) := by decide +kernel
theorem dX9_partsOf_143 : decode cX9_partsOf 143 = .ok (.aload_n 0, 1) := by decide +kernel
theorem dX9_partsOf_144 : decode cX9_partsOf 144 = .ok (.iload_n 3, 1) := by decide +kernel
theorem dX9_partsOf_145 : decode cX9_partsOf 145 = .ok (.iload 5, 2) := by decide +kernel
theorem dX9_partsOf_147 : decode cX9_partsOf 147 = .ok (.invokevirtual 373, 3) := by decide +kernel
theorem dX9_partsOf_150 : decode cX9_partsOf 150 = .ok (.ifCond .eq 7, 3) := by decide +kernel
theorem dX9_partsOf_153 : decode cX9_partsOf 153 = .ok (.iconst 1, 1) := by decide +kernel
theorem dX9_partsOf_154 : decode cX9_partsOf 154 = .ok (.goto 4, 3) := by decide +kernel
theorem dX9_partsOf_157 : decode cX9_partsOf 157 = .ok (.iconst 0, 1) := by decide +kernel
theorem dX9_partsOf_158 : decode cX9_partsOf 158 = .ok (.iadd, 1) := by decide +kernel
theorem dX9_partsOf_159 : decode cX9_partsOf 159 = .ok (.istore 4, 2) := by decide +kernel
theorem dX9_partsOf_161 : decode cX9_partsOf 161 = .ok (.iinc 5 1, 3) := by decide +kernel
theorem dX9_partsOf_164 : decode cX9_partsOf 164 = .ok (.goto (-32), 3) := by decide +kernel
theorem dX9_partsOf_167 : decode cX9_partsOf 167 = .ok (.iload 4, 2) := by decide +kernel
theorem dX9_partsOf_169 : decode cX9_partsOf 169 = .ok (.iload_n 2, 1) := by decide +kernel
theorem dX9_partsOf_170 : decode cX9_partsOf 170 = .ok (.if_icmp .le 8, 3) := by decide +kernel
theorem dX9_partsOf_173 : decode cX9_partsOf 173 = .ok (.iload 4, 2) := by decide +kernel
theorem dX9_partsOf_175 : decode cX9_partsOf 175 = .ok (.goto 4, 3) := by decide +kernel
theorem dX9_partsOf_178 : decode cX9_partsOf 178 = .ok (.iload_n 2, 1) := by decide +kernel
theorem dX9_partsOf_179 : decode cX9_partsOf 179 = .ok (.istore_n 2, 1) := by decide +kernel
theorem dX9_partsOf_180 : decode cX9_partsOf 180 = .ok (.iinc 3 1, 3) := by decide +kernel
theorem dX9_partsOf_183 : decode cX9_partsOf 183 = .ok (.goto (-65), 3) := by decide +kernel
theorem dX9_partsOf_186 : decode cX9_partsOf 186 = .ok (.iload_n 2, 1) := by decide +kernel
theorem dX9_partsOf_187 : decode cX9_partsOf 187 = .ok (.ireturn, 1) := by decide +kernel
def fX9_partsOf_104 (k6 : PH → Nat → Int32 → Int32 → Option (Int32 × PH)) (g : PH) (v0 : Nat) (v1 : Int32) (v2 : Int32) : Option (Int32 × PH) :=
  k6 g v0 v1 (v2 + (1 : Int32))
set_option maxHeartbeats 4000000 in
set_option maxRecDepth 100000 in
theorem bX9_partsOf_104 {K : HK} {E : HE} {r : Int32} {g' : PH} {k6 : PH → Nat → Int32 → Int32 → Option (Int32 × PH)} (C : VC K E 6 cX9_partsOf RX9 (some .int)) (hk6 : ∀ (g : PH) (v0 : Nat) (v1 : Int32) (v2 : Int32), k6 g v0 v1 v2 = some (r, g') → V K E (hRm 8 192 0 0) 6 (hZ K E (some (.int r)) g' 0 0) 0 0 (kS K) g 6 [(0, .ref v0), (1, .int v1), (2, .int v2)] []) {g : PH} {v0 : Nat} {v1 : Int32} {v2 : Int32} (hf : fX9_partsOf_104 k6 g v0 v1 v2 = some (r, g')) : V K E (hRm 8 192 0 0) 6 (hZ K E (some (.int r)) g' 0 0) 0 0 (kS K) g 104 [(0, .ref v0), (1, .int v1), (2, .int v2)] [] := by
  unfold fX9_partsOf_104 at hf
  refine V.iinc (pc := 104) (v := (v2 + (1 : Int32))) (L' := [(2, .int (v2 + (1 : Int32))), (0, .ref v0), (1, .int v1)]) C dX9_partsOf_104 2 rfl rfl (by decide) rfl ?_
  refine V.goto (pc := 107) (t := 6) C dX9_partsOf_107 (by decide) ?_
  refine V.sub (L' := [(0, .ref v0), (1, .int v1), (2, .int (v2 + (1 : Int32)))]) [1, 2, 0] rfl ?_
  exact hk6 _ _ _ _ hf
def fX9_partsOf_65 (k6 : PH → Nat → Int32 → Int32 → Option (Int32 × PH)) : Nat → PH → Nat → Int32 → Int32 → Int32 → Option (Int32 × PH)
  | 0, _, _, _, _, _ => none
  | n + 1, g, v0, v1, v2, v3 =>
  (getI g v0 9 20).bind fun x1 =>
  (if ((2 : Int32) * x1) ≤ v3 then (fX9_partsOf_104 (k6) g v0 v1 v2) else
  (if (120 : Int32) ≤ v3 then (fX9_partsOf_104 (k6) g v0 v1 v2) else
  ((getR g v0 9 38).bind fun p5 =>
  ((getR g v0 9 21).bind fun p7 =>
  ((ldI g p7 0 v3).bind fun x9 =>
  ((stI g p5 0 (((120 : Int32) * v2) + v3) x9).bind fun g11 =>
  (fX9_partsOf_65 k6 n g11 v0 v1 v2 (v3 + (1 : Int32)))))))))
set_option maxHeartbeats 4000000 in
set_option maxRecDepth 100000 in
theorem bX9_partsOf_65 {K : HK} {E : HE} {r : Int32} {g' : PH} {k6 : PH → Nat → Int32 → Int32 → Option (Int32 × PH)} (C : VC K E 6 cX9_partsOf RX9 (some .int)) (hk6 : ∀ (g : PH) (v0 : Nat) (v1 : Int32) (v2 : Int32), k6 g v0 v1 v2 = some (r, g') → V K E (hRm 8 192 0 0) 6 (hZ K E (some (.int r)) g' 0 0) 0 0 (kS K) g 6 [(0, .ref v0), (1, .int v1), (2, .int v2)] []) : ∀ (n : Nat) (g : PH) (v0 : Nat) (v1 : Int32) (v2 : Int32) (v3 : Int32), fX9_partsOf_65 k6 n g v0 v1 v2 v3 = some (r, g') → V K E (hRm 8 192 0 0) 6 (hZ K E (some (.int r)) g' 0 0) 0 0 (kS K) g 65 [(0, .ref v0), (1, .int v1), (2, .int v2), (3, .int v3)] [] := by
  intro n
  induction n with
  | zero =>
    intro g v0 v1 v2 v3 hf
    rw [fX9_partsOf_65] at hf
    cases hf
  | succ n ih =>
    intro g v0 v1 v2 v3 hf
    rw [fX9_partsOf_65] at hf
    refine V.iload_n (pc := 65) C dX9_partsOf_65 3 rfl ?_
    refine V.iconst (pc := 66) C dX9_partsOf_66 (v := (2 : Int32)) (by decide) ?_
    refine V.aload_n (pc := 67) C dX9_partsOf_67 0 rfl ?_
    replace hf := ob_some hf
    obtain ⟨x1, h2, hf⟩ := hf
    refine V.getI (pc := 68) C kX9 (k := 20) (by decide) wd_1070 h2 dX9_partsOf_68 ?_
    refine V.imul (pc := 71) C dX9_partsOf_71 ?_
    refine V.icmp_ge (pc := 72) (t := 104) C dX9_partsOf_72 (by decide) (fun c3 => ?_) (fun c3 => ?_)
    · replace hf := ite_t c3 hf
      refine V.sub (L' := [(0, .ref v0), (1, .int v1), (2, .int v2)]) [0, 1, 2] rfl ?_
      exact bX9_partsOf_104 C hk6 hf
    replace hf := ite_f c3 hf
    refine V.iload_n (pc := 75) C dX9_partsOf_75 3 rfl ?_
    refine V.bipush (pc := 76) C dX9_partsOf_76 (v := (120 : Int32)) (by decide) ?_
    refine V.icmp_ge (pc := 78) (t := 104) C dX9_partsOf_78 (by decide) (fun c4 => ?_) (fun c4 => ?_)
    · replace hf := ite_t c4 hf
      refine V.sub (L' := [(0, .ref v0), (1, .int v1), (2, .int v2)]) [0, 1, 2] rfl ?_
      exact bX9_partsOf_104 C hk6 hf
    replace hf := ite_f c4 hf
    refine V.aload_n (pc := 81) C dX9_partsOf_81 0 rfl ?_
    replace hf := ob_some hf
    obtain ⟨p5, h6, hf⟩ := hf
    refine V.getR (pc := 82) C kX9 (k := 38) (by decide) wd_1088 h6 dX9_partsOf_82 ?_
    refine V.bipush (pc := 85) C dX9_partsOf_85 (v := (120 : Int32)) (by decide) ?_
    refine V.iload_n (pc := 87) C dX9_partsOf_87 2 rfl ?_
    refine V.imul (pc := 88) C dX9_partsOf_88 ?_
    refine V.iload_n (pc := 89) C dX9_partsOf_89 3 rfl ?_
    refine V.iadd (pc := 90) C dX9_partsOf_90 ?_
    refine V.aload_n (pc := 91) C dX9_partsOf_91 0 rfl ?_
    replace hf := ob_some hf
    obtain ⟨p7, h8, hf⟩ := hf
    refine V.getR (pc := 92) C kX9 (k := 21) (by decide) wd_1071 h8 dX9_partsOf_92 ?_
    refine V.iload_n (pc := 95) C dX9_partsOf_95 3 rfl ?_
    replace hf := ob_some hf
    obtain ⟨x9, h10, hf⟩ := hf
    refine V.iald (pc := 96) C h10 dX9_partsOf_96 ?_
    replace hf := ob_some hf
    obtain ⟨g11, h12, hf⟩ := hf
    refine V.iast (pc := 97) C h12 dX9_partsOf_97 ?_
    refine V.iinc (pc := 98) (v := (v3 + (1 : Int32))) (L' := [(3, .int (v3 + (1 : Int32))), (0, .ref v0), (1, .int v1), (2, .int v2)]) C dX9_partsOf_98 3 rfl rfl (by decide) rfl ?_
    refine V.goto (pc := 101) (t := 65) C dX9_partsOf_101 (by decide) ?_
    refine V.sub (L' := [(0, .ref v0), (1, .int v1), (2, .int v2), (3, .int (v3 + (1 : Int32)))]) [1, 2, 3, 0] rfl ?_
    exact ih _ _ _ _ _ hf
def fX9_partsOf_158 (k118 : PH → Nat → Int32 → Int32 → Option (Int32 × PH)) (k132 : PH → Nat → Int32 → Int32 → Int32 → Int32 → Option (Int32 × PH)) (g : PH) (v0 : Nat) (v2 : Int32) (v3 : Int32) (v5 : Int32) (s0 : Int32) (s1 : Int32) : Option (Int32 × PH) :=
  k132 g v0 v2 v3 (s1 + s0) (v5 + (1 : Int32))
set_option maxHeartbeats 4000000 in
set_option maxRecDepth 100000 in
theorem bX9_partsOf_158 {K : HK} {E : HE} {r : Int32} {g' : PH} {k118 : PH → Nat → Int32 → Int32 → Option (Int32 × PH)} {k132 : PH → Nat → Int32 → Int32 → Int32 → Int32 → Option (Int32 × PH)} (C : VC K E 6 cX9_partsOf RX9 (some .int)) (hk118 : ∀ (g : PH) (v0 : Nat) (v2 : Int32) (v3 : Int32), k118 g v0 v2 v3 = some (r, g') → V K E (hRm 8 192 0 0) 6 (hZ K E (some (.int r)) g' 0 0) 0 0 (kS K) g 118 [(0, .ref v0), (2, .int v2), (3, .int v3)] []) (hk132 : ∀ (g : PH) (v0 : Nat) (v2 : Int32) (v3 : Int32) (v4 : Int32) (v5 : Int32), k132 g v0 v2 v3 v4 v5 = some (r, g') → V K E (hRm 8 192 0 0) 6 (hZ K E (some (.int r)) g' 0 0) 0 0 (kS K) g 132 [(0, .ref v0), (2, .int v2), (3, .int v3), (4, .int v4), (5, .int v5)] []) {g : PH} {v0 : Nat} {v2 : Int32} {v3 : Int32} {v5 : Int32} {s0 : Int32} {s1 : Int32} (hf : fX9_partsOf_158 k118 k132 g v0 v2 v3 v5 s0 s1 = some (r, g')) : V K E (hRm 8 192 0 0) 6 (hZ K E (some (.int r)) g' 0 0) 0 0 (kS K) g 158 [(0, .ref v0), (2, .int v2), (3, .int v3), (5, .int v5)] [.int s0, .int s1] := by
  unfold fX9_partsOf_158 at hf
  refine V.iadd (pc := 158) C dX9_partsOf_158 ?_
  refine V.istore (pc := 159) (L' := [(4, .int (s1 + s0)), (0, .ref v0), (2, .int v2), (3, .int v3), (5, .int v5)]) C dX9_partsOf_159 (by decide) rfl ?_
  refine V.iinc (pc := 161) (v := (v5 + (1 : Int32))) (L' := [(5, .int (v5 + (1 : Int32))), (4, .int (s1 + s0)), (0, .ref v0), (2, .int v2), (3, .int v3)]) C dX9_partsOf_161 4 rfl rfl (by decide) rfl ?_
  refine V.goto (pc := 164) (t := 132) C dX9_partsOf_164 (by decide) ?_
  refine V.sub (L' := [(0, .ref v0), (2, .int v2), (3, .int v3), (4, .int (s1 + s0)), (5, .int (v5 + (1 : Int32)))]) [2, 3, 4, 1, 0] rfl ?_
  exact hk132 _ _ _ _ _ _ hf
def fX9_partsOf_179 (k118 : PH → Nat → Int32 → Int32 → Option (Int32 × PH)) (g : PH) (v0 : Nat) (v3 : Int32) (s0 : Int32) : Option (Int32 × PH) :=
  k118 g v0 s0 (v3 + (1 : Int32))
set_option maxHeartbeats 4000000 in
set_option maxRecDepth 100000 in
theorem bX9_partsOf_179 {K : HK} {E : HE} {r : Int32} {g' : PH} {k118 : PH → Nat → Int32 → Int32 → Option (Int32 × PH)} (C : VC K E 6 cX9_partsOf RX9 (some .int)) (hk118 : ∀ (g : PH) (v0 : Nat) (v2 : Int32) (v3 : Int32), k118 g v0 v2 v3 = some (r, g') → V K E (hRm 8 192 0 0) 6 (hZ K E (some (.int r)) g' 0 0) 0 0 (kS K) g 118 [(0, .ref v0), (2, .int v2), (3, .int v3)] []) {g : PH} {v0 : Nat} {v3 : Int32} {s0 : Int32} (hf : fX9_partsOf_179 k118 g v0 v3 s0 = some (r, g')) : V K E (hRm 8 192 0 0) 6 (hZ K E (some (.int r)) g' 0 0) 0 0 (kS K) g 179 [(0, .ref v0), (3, .int v3)] [.int s0] := by
  unfold fX9_partsOf_179 at hf
  refine V.istore_n (pc := 179) (L' := [(2, .int s0), (0, .ref v0), (3, .int v3)]) C dX9_partsOf_179 (by decide) rfl ?_
  refine V.iinc (pc := 180) (v := (v3 + (1 : Int32))) (L' := [(3, .int (v3 + (1 : Int32))), (2, .int s0), (0, .ref v0)]) C dX9_partsOf_180 2 rfl rfl (by decide) rfl ?_
  refine V.goto (pc := 183) (t := 118) C dX9_partsOf_183 (by decide) ?_
  refine V.sub (L' := [(0, .ref v0), (2, .int s0), (3, .int (v3 + (1 : Int32)))]) [2, 1, 0] rfl ?_
  exact hk118 _ _ _ _ hf
def fX9_partsOf_132 (k118 : PH → Nat → Int32 → Int32 → Option (Int32 × PH)) : Nat → PH → Nat → Int32 → Int32 → Int32 → Int32 → Option (Int32 × PH)
  | 0, _, _, _, _, _, _ => none
  | n + 1, g, v0, v2, v3, v4, v5 =>
  (getI g v0 9 36).bind fun x1 =>
  (if x1 ≤ v5 then (if v4 ≤ v2 then (fX9_partsOf_179 (k118) g v0 v3 v2) else
  (fX9_partsOf_179 (k118) g v0 v3 v4)) else
  ((fX9_areAlike g v0 v3 v5).bind fun q5 =>
  (if q5.1 = 0 then (fX9_partsOf_158 (k118) (fX9_partsOf_132 k118 n) q5.2 v0 v2 v3 v5 (0 : Int32) v4) else
  (fX9_partsOf_158 (k118) (fX9_partsOf_132 k118 n) q5.2 v0 v2 v3 v5 (1 : Int32) v4))))
set_option maxHeartbeats 4000000 in
set_option maxRecDepth 100000 in
theorem bX9_partsOf_132 {K : HK} {E : HE} {r : Int32} {g' : PH} {k118 : PH → Nat → Int32 → Int32 → Option (Int32 × PH)} (C : VC K E 6 cX9_partsOf RX9 (some .int)) (hk118 : ∀ (g : PH) (v0 : Nat) (v2 : Int32) (v3 : Int32), k118 g v0 v2 v3 = some (r, g') → V K E (hRm 8 192 0 0) 6 (hZ K E (some (.int r)) g' 0 0) 0 0 (kS K) g 118 [(0, .ref v0), (2, .int v2), (3, .int v3)] []) : ∀ (n : Nat) (g : PH) (v0 : Nat) (v2 : Int32) (v3 : Int32) (v4 : Int32) (v5 : Int32), fX9_partsOf_132 k118 n g v0 v2 v3 v4 v5 = some (r, g') → V K E (hRm 8 192 0 0) 6 (hZ K E (some (.int r)) g' 0 0) 0 0 (kS K) g 132 [(0, .ref v0), (2, .int v2), (3, .int v3), (4, .int v4), (5, .int v5)] [] := by
  intro n
  induction n with
  | zero =>
    intro g v0 v2 v3 v4 v5 hf
    rw [fX9_partsOf_132] at hf
    cases hf
  | succ n ih =>
    intro g v0 v2 v3 v4 v5 hf
    rw [fX9_partsOf_132] at hf
    refine V.iload (pc := 132) C dX9_partsOf_132 4 rfl ?_
    refine V.aload_n (pc := 134) C dX9_partsOf_134 0 rfl ?_
    replace hf := ob_some hf
    obtain ⟨x1, h2, hf⟩ := hf
    refine V.getI (pc := 135) C kX9 (k := 36) (by decide) wd_1086 h2 dX9_partsOf_135 ?_
    refine V.icmp_ge (pc := 138) (t := 167) C dX9_partsOf_138 (by decide) (fun c3 => ?_) (fun c3 => ?_)
    · replace hf := ite_t c3 hf
      refine V.iload (pc := 167) C dX9_partsOf_167 3 rfl ?_
      refine V.iload_n (pc := 169) C dX9_partsOf_169 1 rfl ?_
      refine V.icmp_le (pc := 170) (t := 178) C dX9_partsOf_170 (by decide) (fun c4 => ?_) (fun c4 => ?_)
      · replace hf := ite_t c4 hf
        refine V.iload_n (pc := 178) C dX9_partsOf_178 1 rfl ?_
        refine V.sub (L' := [(0, .ref v0), (3, .int v3)]) [0, 2] rfl ?_
        exact bX9_partsOf_179 C hk118 hf
      replace hf := ite_f c4 hf
      refine V.iload (pc := 173) C dX9_partsOf_173 3 rfl ?_
      refine V.goto (pc := 175) (t := 179) C dX9_partsOf_175 (by decide) ?_
      refine V.sub (L' := [(0, .ref v0), (3, .int v3)]) [0, 2] rfl ?_
      exact bX9_partsOf_179 C hk118 hf
    replace hf := ite_f c3 hf
    refine V.iload (pc := 141) C dX9_partsOf_141 3 rfl ?_
    refine V.aload_n (pc := 143) C dX9_partsOf_143 0 rfl ?_
    refine V.iload_n (pc := 144) C dX9_partsOf_144 2 rfl ?_
    refine V.iload (pc := 145) C dX9_partsOf_145 4 rfl ?_
    replace hf := ob_some hf
    obtain ⟨q5, h6, hf⟩ := hf
    refine V.callV0i (pc := 147) C hyX9_areAlike wd_1561 (mX9_areAlike (r := q5.1) (g' := q5.2) K.2.1 E (kS K) h6) rfl rfl rfl (oX9_areAlike h6) ⟨Nat.le_of_ble_eq_true rfl, Nat.le_of_ble_eq_true rfl⟩ (Nat.le_of_ble_eq_true rfl) dX9_partsOf_147 ⟨Nat.zero_le _, Nat.zero_le _⟩ rfl ?_
    refine V.if_eq (pc := 150) (t := 157) C dX9_partsOf_150 (by decide) (fun c7 => ?_) (fun c7 => ?_)
    · replace hf := ite_t c7 hf
      refine V.iconst (pc := 157) C dX9_partsOf_157 (v := (0 : Int32)) (by decide) ?_
      refine V.sub (L' := [(0, .ref v0), (2, .int v2), (3, .int v3), (5, .int v5)]) [0, 1, 2, 4] rfl ?_
      exact bX9_partsOf_158 C hk118 ih hf
    replace hf := ite_f c7 hf
    refine V.iconst (pc := 153) C dX9_partsOf_153 (v := (1 : Int32)) (by decide) ?_
    refine V.goto (pc := 154) (t := 158) C dX9_partsOf_154 (by decide) ?_
    refine V.sub (L' := [(0, .ref v0), (2, .int v2), (3, .int v3), (5, .int v5)]) [0, 1, 2, 4] rfl ?_
    exact bX9_partsOf_158 C hk118 ih hf
def fX9_partsOf_118  : Nat → PH → Nat → Int32 → Int32 → Option (Int32 × PH)
  | 0, _, _, _, _ => none
  | n + 1, g, v0, v2, v3 =>
  (getI g v0 9 36).bind fun x1 =>
  (if x1 ≤ v3 then (some (v2, g)) else
  (fX9_partsOf_132 (fX9_partsOf_118 n) FUEL g v0 v2 v3 (0 : Int32) (0 : Int32)))
set_option maxHeartbeats 4000000 in
set_option maxRecDepth 100000 in
theorem bX9_partsOf_118 {K : HK} {E : HE} {r : Int32} {g' : PH}  (C : VC K E 6 cX9_partsOf RX9 (some .int))  : ∀ (n : Nat) (g : PH) (v0 : Nat) (v2 : Int32) (v3 : Int32), fX9_partsOf_118  n g v0 v2 v3 = some (r, g') → V K E (hRm 8 192 0 0) 6 (hZ K E (some (.int r)) g' 0 0) 0 0 (kS K) g 118 [(0, .ref v0), (2, .int v2), (3, .int v3)] [] := by
  intro n
  induction n with
  | zero =>
    intro g v0 v2 v3 hf
    rw [fX9_partsOf_118] at hf
    cases hf
  | succ n ih =>
    intro g v0 v2 v3 hf
    rw [fX9_partsOf_118] at hf
    refine V.iload_n (pc := 118) C dX9_partsOf_118 2 rfl ?_
    refine V.aload_n (pc := 119) C dX9_partsOf_119 0 rfl ?_
    replace hf := ob_some hf
    obtain ⟨x1, h2, hf⟩ := hf
    refine V.getI (pc := 120) C kX9 (k := 36) (by decide) wd_1086 h2 dX9_partsOf_120 ?_
    refine V.icmp_ge (pc := 123) (t := 186) C dX9_partsOf_123 (by decide) (fun c3 => ?_) (fun c3 => ?_)
    · replace hf := ite_t c3 hf
      refine V.iload_n (pc := 186) C dX9_partsOf_186 1 rfl ?_
      obtain ⟨f1, f2⟩ := fin2 hf
      clear hf
      subst f1
      subst f2
      exact V.iret (pc := 187) C rfl dX9_partsOf_187
    replace hf := ite_f c3 hf
    refine V.iconst (pc := 126) C dX9_partsOf_126 (v := (0 : Int32)) (by decide) ?_
    refine V.istore (pc := 127) (L' := [(4, .int (0 : Int32)), (0, .ref v0), (2, .int v2), (3, .int v3)]) C dX9_partsOf_127 (by decide) rfl ?_
    refine V.iconst (pc := 129) C dX9_partsOf_129 (v := (0 : Int32)) (by decide) ?_
    refine V.istore (pc := 130) (L' := [(5, .int (0 : Int32)), (4, .int (0 : Int32)), (0, .ref v0), (2, .int v2), (3, .int v3)]) C dX9_partsOf_130 (by decide) rfl ?_
    refine V.sub (L' := [(0, .ref v0), (2, .int v2), (3, .int v3), (4, .int (0 : Int32)), (5, .int (0 : Int32))]) [2, 3, 4, 1, 0] rfl ?_
    exact bX9_partsOf_132 C ih _ _ _ _ _ _ _ hf
def fX9_partsOf_6  : Nat → PH → Nat → Int32 → Int32 → Option (Int32 × PH)
  | 0, _, _, _, _ => none
  | n + 1, g, v0, v1, v2 =>
  (getI g v0 9 36).bind fun x1 =>
  (if x1 ≤ v2 then ((fX9_laysBack g v0).bind fun q4 =>
  (fX9_partsOf_118 FUEL q4.2 v0 (0 : Int32) (0 : Int32))) else
  ((getR g v0 9 35).bind fun p6 =>
  ((ldI g p6 0 ((3 : Int32) * v2)).bind fun x8 =>
  ((getR g v0 9 35).bind fun p10 =>
  ((ldI g p10 0 (((3 : Int32) * v2) + (1 : Int32))).bind fun x12 =>
  ((getR g v0 9 35).bind fun p14 =>
  ((ldI g p14 0 (((3 : Int32) * v2) + (2 : Int32))).bind fun x16 =>
  ((fX9_tries g v0 x8 x12 x16 (0 : Int32)).bind fun q18 =>
  ((fX9_goesThrough q18.2 v0 v1 (0 : Int32)).bind fun q20 =>
  ((getR q20.2 v0 9 37).bind fun p22 =>
  ((getI q20.2 v0 9 20).bind fun x24 =>
  ((stI q20.2 p22 0 v2 x24).bind fun g26 =>
  (fX9_partsOf_65 (fX9_partsOf_6 n) FUEL g26 v0 v1 v2 (0 : Int32))))))))))))))
set_option maxHeartbeats 4000000 in
set_option maxRecDepth 100000 in
theorem bX9_partsOf_6 {K : HK} {E : HE} {r : Int32} {g' : PH}  (C : VC K E 6 cX9_partsOf RX9 (some .int))  : ∀ (n : Nat) (g : PH) (v0 : Nat) (v1 : Int32) (v2 : Int32), fX9_partsOf_6  n g v0 v1 v2 = some (r, g') → V K E (hRm 8 192 0 0) 6 (hZ K E (some (.int r)) g' 0 0) 0 0 (kS K) g 6 [(0, .ref v0), (1, .int v1), (2, .int v2)] [] := by
  intro n
  induction n with
  | zero =>
    intro g v0 v1 v2 hf
    rw [fX9_partsOf_6] at hf
    cases hf
  | succ n ih =>
    intro g v0 v1 v2 hf
    rw [fX9_partsOf_6] at hf
    refine V.iload_n (pc := 6) C dX9_partsOf_6 2 rfl ?_
    refine V.aload_n (pc := 7) C dX9_partsOf_7 0 rfl ?_
    replace hf := ob_some hf
    obtain ⟨x1, h2, hf⟩ := hf
    refine V.getI (pc := 8) C kX9 (k := 36) (by decide) wd_1086 h2 dX9_partsOf_8 ?_
    refine V.icmp_ge (pc := 11) (t := 110) C dX9_partsOf_11 (by decide) (fun c3 => ?_) (fun c3 => ?_)
    · replace hf := ite_t c3 hf
      refine V.aload_n (pc := 110) C dX9_partsOf_110 0 rfl ?_
      replace hf := ob_some hf
      obtain ⟨q4, h5, hf⟩ := hf
      refine V.callV0v (pc := 111) C hyX9_laysBack wd_1388 (mX9_laysBack (r := q4.1) (g' := q4.2) K.2.1 E (kS K) h5) rfl rfl rfl (oX9_laysBack h5) ⟨Nat.le_of_ble_eq_true rfl, Nat.le_of_ble_eq_true rfl⟩ (Nat.le_of_ble_eq_true rfl) dX9_partsOf_111 ⟨Nat.zero_le _, Nat.zero_le _⟩ rfl ?_
      refine V.iconst (pc := 114) C dX9_partsOf_114 (v := (0 : Int32)) (by decide) ?_
      refine V.istore_n (pc := 115) (L' := [(2, .int (0 : Int32)), (0, .ref v0), (1, .int v1)]) C dX9_partsOf_115 (by decide) rfl ?_
      refine V.iconst (pc := 116) C dX9_partsOf_116 (v := (0 : Int32)) (by decide) ?_
      refine V.istore_n (pc := 117) (L' := [(3, .int (0 : Int32)), (2, .int (0 : Int32)), (0, .ref v0), (1, .int v1)]) C dX9_partsOf_117 (by decide) rfl ?_
      refine V.sub (L' := [(0, .ref v0), (2, .int (0 : Int32)), (3, .int (0 : Int32))]) [2, 1, 0] rfl ?_
      exact bX9_partsOf_118 C  _ _ _ _ _ hf
    replace hf := ite_f c3 hf
    refine V.aload_n (pc := 14) C dX9_partsOf_14 0 rfl ?_
    refine V.aload_n (pc := 15) C dX9_partsOf_15 0 rfl ?_
    replace hf := ob_some hf
    obtain ⟨p6, h7, hf⟩ := hf
    refine V.getR (pc := 16) C kX9 (k := 35) (by decide) wd_1085 h7 dX9_partsOf_16 ?_
    refine V.iconst (pc := 19) C dX9_partsOf_19 (v := (3 : Int32)) (by decide) ?_
    refine V.iload_n (pc := 20) C dX9_partsOf_20 2 rfl ?_
    refine V.imul (pc := 21) C dX9_partsOf_21 ?_
    replace hf := ob_some hf
    obtain ⟨x8, h9, hf⟩ := hf
    refine V.iald (pc := 22) C h9 dX9_partsOf_22 ?_
    refine V.aload_n (pc := 23) C dX9_partsOf_23 0 rfl ?_
    replace hf := ob_some hf
    obtain ⟨p10, h11, hf⟩ := hf
    refine V.getR (pc := 24) C kX9 (k := 35) (by decide) wd_1085 h11 dX9_partsOf_24 ?_
    refine V.iconst (pc := 27) C dX9_partsOf_27 (v := (3 : Int32)) (by decide) ?_
    refine V.iload_n (pc := 28) C dX9_partsOf_28 2 rfl ?_
    refine V.imul (pc := 29) C dX9_partsOf_29 ?_
    refine V.iconst (pc := 30) C dX9_partsOf_30 (v := (1 : Int32)) (by decide) ?_
    refine V.iadd (pc := 31) C dX9_partsOf_31 ?_
    replace hf := ob_some hf
    obtain ⟨x12, h13, hf⟩ := hf
    refine V.iald (pc := 32) C h13 dX9_partsOf_32 ?_
    refine V.aload_n (pc := 33) C dX9_partsOf_33 0 rfl ?_
    replace hf := ob_some hf
    obtain ⟨p14, h15, hf⟩ := hf
    refine V.getR (pc := 34) C kX9 (k := 35) (by decide) wd_1085 h15 dX9_partsOf_34 ?_
    refine V.iconst (pc := 37) C dX9_partsOf_37 (v := (3 : Int32)) (by decide) ?_
    refine V.iload_n (pc := 38) C dX9_partsOf_38 2 rfl ?_
    refine V.imul (pc := 39) C dX9_partsOf_39 ?_
    refine V.iconst (pc := 40) C dX9_partsOf_40 (v := (2 : Int32)) (by decide) ?_
    refine V.iadd (pc := 41) C dX9_partsOf_41 ?_
    replace hf := ob_some hf
    obtain ⟨x16, h17, hf⟩ := hf
    refine V.iald (pc := 42) C h17 dX9_partsOf_42 ?_
    refine V.iconst (pc := 43) C dX9_partsOf_43 (v := (0 : Int32)) (by decide) ?_
    replace hf := ob_some hf
    obtain ⟨q18, h19, hf⟩ := hf
    refine V.callV0v (pc := 44) C hyX9_tries wd_1325 (mX9_tries (r := q18.1) (g' := q18.2) K.2.1 E (kS K) h19) rfl rfl rfl (oX9_tries h19) ⟨Nat.le_of_ble_eq_true rfl, Nat.le_of_ble_eq_true rfl⟩ (Nat.le_of_ble_eq_true rfl) dX9_partsOf_44 ⟨Nat.zero_le _, Nat.zero_le _⟩ rfl ?_
    refine V.aload_n (pc := 47) C dX9_partsOf_47 0 rfl ?_
    refine V.iload_n (pc := 48) C dX9_partsOf_48 1 rfl ?_
    refine V.iconst (pc := 49) C dX9_partsOf_49 (v := (0 : Int32)) (by decide) ?_
    replace hf := ob_some hf
    obtain ⟨q20, h21, hf⟩ := hf
    refine V.callV0v (pc := 50) C hyX9_goesThrough wd_1352 (mX9_goesThrough (r := q20.1) (g' := q20.2) K.2.1 E (kS K) h21) rfl rfl rfl (oX9_goesThrough h21) ⟨Nat.le_of_ble_eq_true rfl, Nat.le_of_ble_eq_true rfl⟩ (Nat.le_of_ble_eq_true rfl) dX9_partsOf_50 ⟨Nat.zero_le _, Nat.zero_le _⟩ rfl ?_
    refine V.aload_n (pc := 53) C dX9_partsOf_53 0 rfl ?_
    replace hf := ob_some hf
    obtain ⟨p22, h23, hf⟩ := hf
    refine V.getR (pc := 54) C kX9 (k := 37) (by decide) wd_1087 h23 dX9_partsOf_54 ?_
    refine V.iload_n (pc := 57) C dX9_partsOf_57 2 rfl ?_
    refine V.aload_n (pc := 58) C dX9_partsOf_58 0 rfl ?_
    replace hf := ob_some hf
    obtain ⟨x24, h25, hf⟩ := hf
    refine V.getI (pc := 59) C kX9 (k := 20) (by decide) wd_1070 h25 dX9_partsOf_59 ?_
    replace hf := ob_some hf
    obtain ⟨g26, h27, hf⟩ := hf
    refine V.iast (pc := 62) C h27 dX9_partsOf_62 ?_
    refine V.iconst (pc := 63) C dX9_partsOf_63 (v := (0 : Int32)) (by decide) ?_
    refine V.istore_n (pc := 64) (L' := [(3, .int (0 : Int32)), (0, .ref v0), (1, .int v1), (2, .int v2)]) C dX9_partsOf_64 (by decide) rfl ?_
    refine V.sub (L' := [(0, .ref v0), (1, .int v1), (2, .int v2), (3, .int (0 : Int32))]) [1, 2, 3, 0] rfl ?_
    exact bX9_partsOf_65 C ih _ _ _ _ _ _ hf
def fX9_partsOf (g : PH) (a0 : Nat) (a1 : Int32) : Option (Int32 × PH) :=
  okb (isO g a0 9) ((fX9_keepsAside g a0).bind fun q1 =>
  (fX9_partsOf_6 FUEL q1.2 a0 a1 (0 : Int32)))
theorem oX9_partsOf {g : PH} {a0 : Nat} {a1 : Int32} {q : (Int32 × PH)} (h : fX9_partsOf g a0 a1 = some q) : isO g a0 9 = true := by unfold fX9_partsOf at h; exact (okb_some h).1
theorem hyX9_partsOf : hMet yX9_partsOf RX9 cX9_partsOf 6 (some .int) 1 := ⟨wd_1560, wd_1559, ws_114, wd_7, rfl, by decide +kernel, by decide +kernel, by decide +kernel⟩
set_option maxHeartbeats 4000000 in
set_option maxRecDepth 100000 in
theorem mX9_partsOf (l : Launch) (E : HE) (sz : Nat) {g g' : PH} {a0 : Nat} {a1 : Int32} {r : Int32} (hf : fX9_partsOf g a0 a1 = some (r, g')) : hM l E yX9_partsOf cX9_partsOf 6 (some .int) 8 192 0 0 sz g [.ref a0, .int a1] (some (.int r)) g' := by
  refine hM.of (by decide) (Nat.le_of_ble_eq_true rfl) (fun K hl C hin hsz => ?_)
  subst hl
  subst hsz
  have C : VC K E 6 cX9_partsOf RX9 (some .int) := C
  unfold fX9_partsOf at hf
  replace hf := okb_some hf
  obtain ⟨ho, hf⟩ := hf
  refine V.start (L' := [(0, .ref a0), (1, .int a1)]) rfl ?_
  refine V.aload_n (pc := 0) C dX9_partsOf_0 0 rfl ?_
  replace hf := ob_some hf
  obtain ⟨q1, h2, hf⟩ := hf
  refine V.callV0v (pc := 1) C hyX9_keepsAside wd_1309 (mX9_keepsAside (r := q1.1) (g' := q1.2) K.2.1 E (kS K) h2) rfl rfl rfl (oX9_keepsAside h2) ⟨Nat.le_of_ble_eq_true rfl, Nat.le_of_ble_eq_true rfl⟩ (Nat.le_of_ble_eq_true rfl) dX9_partsOf_1 ⟨Nat.zero_le _, Nat.zero_le _⟩ rfl ?_
  refine V.iconst (pc := 4) C dX9_partsOf_4 (v := (0 : Int32)) (by decide) ?_
  refine V.istore_n (pc := 5) (L' := [(2, .int (0 : Int32)), (0, .ref a0), (1, .int a1)]) C dX9_partsOf_5 (by decide) rfl ?_
  refine V.sub (L' := [(0, .ref a0), (1, .int a1), (2, .int (0 : Int32))]) [1, 2, 0] rfl ?_
  exact bX9_partsOf_6 C  _ _ _ _ _ hf
theorem dX9_parts_0 : decode cX9_parts 0 = .ok (.aload_n 0, 1) := by decide +kernel
theorem dX9_parts_1 : decode cX9_parts 1 = .ok (.iload_n 1, 1) := by decide +kernel
theorem dX9_parts_2 : decode cX9_parts 2 = .ok (.invokevirtual 263, 3) := by decide +kernel
theorem dX9_parts_5 : decode cX9_parts 5 = .ok (.ifCond .eq 13, 3) := by decide +kernel
theorem dX9_parts_8 : decode cX9_parts 8 = .ok (.aload_n 0, 1) := by decide +kernel
theorem dX9_parts_9 : decode cX9_parts 9 = .ok (.getfield 32, 3) := by decide +kernel
theorem dX9_parts_12 : decode cX9_parts 12 = .ok (.bipush 10, 2) := by decide +kernel
theorem dX9_parts_14 : decode cX9_parts 14 = .ok (.iaload, 1) := by decide +kernel
theorem dX9_parts_15 : decode cX9_parts 15 = .ok (.ifCond .ge 5, 3) := by decide +kernel
theorem dX9_parts_18 : decode cX9_parts 18 = .ok (.iconst (-1), 1) := by decide +kernel
theorem dX9_parts_19 : decode cX9_parts 19 = .ok (.ireturn, 1) := by decide +kernel
theorem dX9_parts_20 : decode cX9_parts 20 = .ok (.aload_n 0, 1) := by decide +kernel
theorem dX9_parts_21 : decode cX9_parts 21 = .ok (.invokevirtual 370, 3) := by decide +kernel
theorem dX9_parts_24 : decode cX9_parts 24 = .ok (.aload_n 0, 1) := by decide +kernel
theorem dX9_parts_25 : decode cX9_parts 25 = .ok (.iload_n 1, 1) := by decide +kernel
theorem dX9_parts_26 : decode cX9_parts 26 = .ok (.invokevirtual 376, 3) := by decide +kernel
theorem dX9_parts_29 : decode cX9_parts 29 = .ok (.ireturn, 1) := by decide +kernel
def fX9_parts (g : PH) (a0 : Nat) (a1 : Int32) : Option (Int32 × PH) :=
  okb (isO g a0 9) ((fX9_isMarch g a0 a1).bind fun q1 =>
  (if q1.1 = 0 then (some ((-1 : Int32), q1.2)) else
  ((getR q1.2 a0 9 16).bind fun p4 =>
  ((ldI q1.2 p4 0 (10 : Int32)).bind fun x6 =>
  (if 0 ≤ x6 then ((fX9_gathersFits q1.2 a0).bind fun q9 =>
  ((fX9_partsOf q9.2 a0 a1).bind fun q11 =>
  (some (q11.1, q11.2)))) else
  (some ((-1 : Int32), q1.2)))))))
theorem oX9_parts {g : PH} {a0 : Nat} {a1 : Int32} {q : (Int32 × PH)} (h : fX9_parts g a0 a1 = some q) : isO g a0 9 = true := by unfold fX9_parts at h; exact (okb_some h).1
theorem hyX9_parts : hMet yX9_parts RX9 cX9_parts 2 (some .int) 1 := ⟨wd_1556, wd_1554, wd_1555, wd_7, rfl, by decide +kernel, by decide +kernel, by decide +kernel⟩
set_option maxHeartbeats 4000000 in
set_option maxRecDepth 100000 in
theorem mX9_parts (l : Launch) (E : HE) (sz : Nat) {g g' : PH} {a0 : Nat} {a1 : Int32} {r : Int32} (hf : fX9_parts g a0 a1 = some (r, g')) : hM l E yX9_parts cX9_parts 2 (some .int) 10 236 0 0 sz g [.ref a0, .int a1] (some (.int r)) g' := by
  refine hM.of (by decide) (Nat.le_of_ble_eq_true rfl) (fun K hl C hin hsz => ?_)
  subst hl
  subst hsz
  have C : VC K E 2 cX9_parts RX9 (some .int) := C
  unfold fX9_parts at hf
  replace hf := okb_some hf
  obtain ⟨ho, hf⟩ := hf
  refine V.start (L' := [(0, .ref a0), (1, .int a1)]) rfl ?_
  refine V.aload_n (pc := 0) C dX9_parts_0 0 rfl ?_
  refine V.iload_n (pc := 1) C dX9_parts_1 1 rfl ?_
  replace hf := ob_some hf
  obtain ⟨q1, h2, hf⟩ := hf
  refine V.callV0i (pc := 2) C hyX9_isMarch wd_1287 (mX9_isMarch (r := q1.1) (g' := q1.2) K.2.1 E (kS K) h2) rfl rfl rfl (oX9_isMarch h2) ⟨Nat.le_of_ble_eq_true rfl, Nat.le_of_ble_eq_true rfl⟩ (Nat.le_of_ble_eq_true rfl) dX9_parts_2 ⟨Nat.zero_le _, Nat.zero_le _⟩ rfl ?_
  refine V.if_eq (pc := 5) (t := 18) C dX9_parts_5 (by decide) (fun c3 => ?_) (fun c3 => ?_)
  · replace hf := ite_t c3 hf
    refine V.iconst (pc := 18) C dX9_parts_18 (v := (-1 : Int32)) (by decide) ?_
    obtain ⟨f1, f2⟩ := fin2 hf
    clear hf
    subst f1
    subst f2
    exact V.iret (pc := 19) C rfl dX9_parts_19
  replace hf := ite_f c3 hf
  refine V.aload_n (pc := 8) C dX9_parts_8 0 rfl ?_
  replace hf := ob_some hf
  obtain ⟨p4, h5, hf⟩ := hf
  refine V.getR (pc := 9) C kX9 (k := 16) (by decide) wd_1066 h5 dX9_parts_9 ?_
  refine V.bipush (pc := 12) C dX9_parts_12 (v := (10 : Int32)) (by decide) ?_
  replace hf := ob_some hf
  obtain ⟨x6, h7, hf⟩ := hf
  refine V.iald (pc := 14) C h7 dX9_parts_14 ?_
  refine V.if_ge (pc := 15) (t := 20) C dX9_parts_15 (by decide) (fun c8 => ?_) (fun c8 => ?_)
  · replace hf := ite_t c8 hf
    refine V.aload_n (pc := 20) C dX9_parts_20 0 rfl ?_
    replace hf := ob_some hf
    obtain ⟨q9, h10, hf⟩ := hf
    refine V.callV0v (pc := 21) C hyX9_gathersFits wd_1541 (mX9_gathersFits (r := q9.1) (g' := q9.2) K.2.1 E (kS K) h10) rfl rfl rfl (oX9_gathersFits h10) ⟨Nat.le_of_ble_eq_true rfl, Nat.le_of_ble_eq_true rfl⟩ (Nat.le_of_ble_eq_true rfl) dX9_parts_21 ⟨Nat.zero_le _, Nat.zero_le _⟩ rfl ?_
    refine V.aload_n (pc := 24) C dX9_parts_24 0 rfl ?_
    refine V.iload_n (pc := 25) C dX9_parts_25 1 rfl ?_
    replace hf := ob_some hf
    obtain ⟨q11, h12, hf⟩ := hf
    refine V.callV0i (pc := 26) C hyX9_partsOf wd_1557 (mX9_partsOf (r := q11.1) (g' := q11.2) K.2.1 E (kS K) h12) rfl rfl rfl (oX9_partsOf h12) ⟨Nat.le_of_ble_eq_true rfl, Nat.le_of_ble_eq_true rfl⟩ (Nat.le_of_ble_eq_true rfl) dX9_parts_26 ⟨Nat.zero_le _, Nat.zero_le _⟩ rfl ?_
    obtain ⟨f1, f2⟩ := fin2 hf
    clear hf
    subst f1
    subst f2
    exact V.iret (pc := 29) C rfl dX9_parts_29
  replace hf := ite_f c8 hf
  refine V.iconst (pc := 18) C dX9_parts_18 (v := (-1 : Int32)) (by decide) ?_
  obtain ⟨f1, f2⟩ := fin2 hf
  clear hf
  subst f1
  subst f2
  exact V.iret (pc := 19) C rfl dX9_parts_19
theorem dX9_ask_0 : decode cX9_ask 0 = .ok (.aload_n 0, 1) := by decide +kernel
theorem dX9_ask_1 : decode cX9_ask 1 = .ok (.getfield 32, 3) := by decide +kernel
theorem dX9_ask_4 : decode cX9_ask 4 = .ok (.bipush 10, 2) := by decide +kernel
theorem dX9_ask_6 : decode cX9_ask 6 = .ok (.iaload, 1) := by decide +kernel
theorem dX9_ask_7 : decode cX9_ask 7 = .ok (.ifCond .ge 5, 3) := by decide +kernel
theorem dX9_ask_10 : decode cX9_ask 10 = .ok (.iconst (-1), 1) := by decide +kernel
theorem dX9_ask_11 : decode cX9_ask 11 = .ok (.ireturn, 1) := by decide +kernel
theorem dX9_ask_12 : decode cX9_ask 12 = .ok (.aload_n 0, 1) := by decide +kernel
theorem dX9_ask_13 : decode cX9_ask 13 = .ok (.invokevirtual 370, 3) := by decide +kernel
theorem dX9_ask_16 : decode cX9_ask 16 = .ok (.iconst 0, 1) := by decide +kernel
theorem dX9_ask_17 : decode cX9_ask 17 = .ok (.istore_n 1, 1) := by decide +kernel
theorem dX9_ask_18 : decode cX9_ask 18 = .ok (.aload_n 0, 1) := by decide +kernel
theorem dX9_ask_19 : decode cX9_ask 19 = .ok (.iconst 0, 1) := by decide +kernel
theorem dX9_ask_20 : decode cX9_ask 20 = .ok (.invokevirtual 376, 3) := by decide +kernel
theorem dX9_ask_23 : decode cX9_ask 23 = .ok (.istore_n 2, 1) := by decide +kernel
theorem dX9_ask_24 : decode cX9_ask 24 = .ok (.iconst 1, 1) := by decide +kernel
theorem dX9_ask_25 : decode cX9_ask 25 = .ok (.istore_n 3, 1) := by decide +kernel
theorem dX9_ask_26 : decode cX9_ask 26 = .ok (.iload_n 3, 1) := by decide +kernel
theorem dX9_ask_27 : decode cX9_ask 27 = .ok (.aload_n 0, 1) := by decide +kernel
theorem dX9_ask_28 : decode cX9_ask 28 = .ok (.getfield 159, 3) := by decide +kernel
theorem dX9_ask_31 : decode cX9_ask 31 = .ok (.if_icmp .ge 30, 3) := by decide +kernel
theorem dX9_ask_34 : decode cX9_ask 34 = .ok (.aload_n 0, 1) := by decide +kernel
theorem dX9_ask_35 : decode cX9_ask 35 = .ok (.iload_n 3, 1) := by decide +kernel
theorem dX9_ask_36 : decode cX9_ask 36 = .ok (.invokevirtual 376, 3) := by decide +kernel
theorem dX9_ask_39 : decode cX9_ask 39 = .ok (.istore 4, 2) := by decide +kernel
theorem dX9_ask_41 : decode cX9_ask 41 = .ok (.iload 4, 2) := by decide +kernel
theorem dX9_ask_43 : decode cX9_ask 43 = .ok (.iload_n 2, 1) := by decide +kernel
theorem dX9_ask_44 : decode cX9_ask 44 = .ok (.if_icmp .lt 6, 3) := by decide +kernel
theorem dX9_ask_47 : decode cX9_ask 47 = .ok (.goto 8, 3) := by decide +kernel
theorem dX9_ask_50 : decode cX9_ask 50 = .ok (.iload 4, 2) := by decide +kernel
theorem dX9_ask_52 : decode cX9_ask 52 = .ok (.istore_n 2, 1) := by decide +kernel
theorem dX9_ask_53 : decode cX9_ask 53 = .ok (.iload_n 3, 1) := by decide +kernel
theorem dX9_ask_54 : decode cX9_ask 54 = .ok (.istore_n 1, 1) := by decide +kernel
theorem dX9_ask_55 : decode cX9_ask 55 = .ok (.iinc 3 1, 3) := by decide +kernel
theorem dX9_ask_58 : decode cX9_ask 58 = .ok (.goto (-32), 3) := by decide +kernel
theorem dX9_ask_61 : decode cX9_ask 61 = .ok (.iload_n 1, 1) := by decide +kernel
theorem dX9_ask_62 : decode cX9_ask 62 = .ok (.ireturn, 1) := by decide +kernel
def fX9_ask_55 (k26 : PH → Nat → Int32 → Int32 → Int32 → Option (Int32 × PH)) (g : PH) (v0 : Nat) (v1 : Int32) (v2 : Int32) (v3 : Int32) : Option (Int32 × PH) :=
  k26 g v0 v1 v2 (v3 + (1 : Int32))
set_option maxHeartbeats 4000000 in
set_option maxRecDepth 100000 in
theorem bX9_ask_55 {K : HK} {E : HE} {r : Int32} {g' : PH} {k26 : PH → Nat → Int32 → Int32 → Int32 → Option (Int32 × PH)} (C : VC K E 5 cX9_ask RX9 (some .int)) (hk26 : ∀ (g : PH) (v0 : Nat) (v1 : Int32) (v2 : Int32) (v3 : Int32), k26 g v0 v1 v2 v3 = some (r, g') → V K E (hRm 10 236 0 0) 5 (hZ K E (some (.int r)) g' 0 0) 0 0 (kS K) g 26 [(0, .ref v0), (1, .int v1), (2, .int v2), (3, .int v3)] []) {g : PH} {v0 : Nat} {v1 : Int32} {v2 : Int32} {v3 : Int32} (hf : fX9_ask_55 k26 g v0 v1 v2 v3 = some (r, g')) : V K E (hRm 10 236 0 0) 5 (hZ K E (some (.int r)) g' 0 0) 0 0 (kS K) g 55 [(0, .ref v0), (1, .int v1), (2, .int v2), (3, .int v3)] [] := by
  unfold fX9_ask_55 at hf
  refine V.iinc (pc := 55) (v := (v3 + (1 : Int32))) (L' := [(3, .int (v3 + (1 : Int32))), (0, .ref v0), (1, .int v1), (2, .int v2)]) C dX9_ask_55 3 rfl rfl (by decide) rfl ?_
  refine V.goto (pc := 58) (t := 26) C dX9_ask_58 (by decide) ?_
  refine V.sub (L' := [(0, .ref v0), (1, .int v1), (2, .int v2), (3, .int (v3 + (1 : Int32)))]) [1, 2, 3, 0] rfl ?_
  exact hk26 _ _ _ _ _ hf
def fX9_ask_26  : Nat → PH → Nat → Int32 → Int32 → Int32 → Option (Int32 × PH)
  | 0, _, _, _, _, _ => none
  | n + 1, g, v0, v1, v2, v3 =>
  (getI g v0 9 11).bind fun x1 =>
  (if x1 ≤ v3 then (some (v1, g)) else
  ((fX9_partsOf g v0 v3).bind fun q4 =>
  (if q4.1 < v2 then (fX9_ask_55 (fX9_ask_26 n) q4.2 v0 v3 q4.1 v3) else
  (fX9_ask_55 (fX9_ask_26 n) q4.2 v0 v1 v2 v3))))
set_option maxHeartbeats 4000000 in
set_option maxRecDepth 100000 in
theorem bX9_ask_26 {K : HK} {E : HE} {r : Int32} {g' : PH}  (C : VC K E 5 cX9_ask RX9 (some .int))  : ∀ (n : Nat) (g : PH) (v0 : Nat) (v1 : Int32) (v2 : Int32) (v3 : Int32), fX9_ask_26  n g v0 v1 v2 v3 = some (r, g') → V K E (hRm 10 236 0 0) 5 (hZ K E (some (.int r)) g' 0 0) 0 0 (kS K) g 26 [(0, .ref v0), (1, .int v1), (2, .int v2), (3, .int v3)] [] := by
  intro n
  induction n with
  | zero =>
    intro g v0 v1 v2 v3 hf
    rw [fX9_ask_26] at hf
    cases hf
  | succ n ih =>
    intro g v0 v1 v2 v3 hf
    rw [fX9_ask_26] at hf
    refine V.iload_n (pc := 26) C dX9_ask_26 3 rfl ?_
    refine V.aload_n (pc := 27) C dX9_ask_27 0 rfl ?_
    replace hf := ob_some hf
    obtain ⟨x1, h2, hf⟩ := hf
    refine V.getI (pc := 28) C kX9 (k := 11) (by decide) wd_1061 h2 dX9_ask_28 ?_
    refine V.icmp_ge (pc := 31) (t := 61) C dX9_ask_31 (by decide) (fun c3 => ?_) (fun c3 => ?_)
    · replace hf := ite_t c3 hf
      refine V.iload_n (pc := 61) C dX9_ask_61 1 rfl ?_
      obtain ⟨f1, f2⟩ := fin2 hf
      clear hf
      subst f1
      subst f2
      exact V.iret (pc := 62) C rfl dX9_ask_62
    replace hf := ite_f c3 hf
    refine V.aload_n (pc := 34) C dX9_ask_34 0 rfl ?_
    refine V.iload_n (pc := 35) C dX9_ask_35 3 rfl ?_
    replace hf := ob_some hf
    obtain ⟨q4, h5, hf⟩ := hf
    refine V.callV0i (pc := 36) C hyX9_partsOf wd_1557 (mX9_partsOf (r := q4.1) (g' := q4.2) K.2.1 E (kS K) h5) rfl rfl rfl (oX9_partsOf h5) ⟨Nat.le_of_ble_eq_true rfl, Nat.le_of_ble_eq_true rfl⟩ (Nat.le_of_ble_eq_true rfl) dX9_ask_36 ⟨Nat.zero_le _, Nat.zero_le _⟩ rfl ?_
    refine V.istore (pc := 39) (L' := [(4, .int q4.1), (0, .ref v0), (1, .int v1), (2, .int v2), (3, .int v3)]) C dX9_ask_39 (by decide) rfl ?_
    refine V.iload (pc := 41) C dX9_ask_41 0 rfl ?_
    refine V.iload_n (pc := 43) C dX9_ask_43 3 rfl ?_
    refine V.icmp_lt (pc := 44) (t := 50) C dX9_ask_44 (by decide) (fun c6 => ?_) (fun c6 => ?_)
    · replace hf := ite_t c6 hf
      refine V.iload (pc := 50) C dX9_ask_50 0 rfl ?_
      refine V.istore_n (pc := 52) (L' := [(2, .int q4.1), (4, .int q4.1), (0, .ref v0), (1, .int v1), (3, .int v3)]) C dX9_ask_52 (by decide) rfl ?_
      refine V.iload_n (pc := 53) C dX9_ask_53 4 rfl ?_
      refine V.istore_n (pc := 54) (L' := [(1, .int v3), (2, .int q4.1), (4, .int q4.1), (0, .ref v0), (3, .int v3)]) C dX9_ask_54 (by decide) rfl ?_
      refine V.sub (L' := [(0, .ref v0), (1, .int v3), (2, .int q4.1), (3, .int v3)]) [3, 0, 1, 4] rfl ?_
      exact bX9_ask_55 C ih hf
    replace hf := ite_f c6 hf
    refine V.goto (pc := 47) (t := 55) C dX9_ask_47 (by decide) ?_
    refine V.sub (L' := [(0, .ref v0), (1, .int v1), (2, .int v2), (3, .int v3)]) [1, 2, 3, 4] rfl ?_
    exact bX9_ask_55 C ih hf
def fX9_ask (g : PH) (a0 : Nat) : Option (Int32 × PH) :=
  okb (isO g a0 9) ((getR g a0 9 16).bind fun p1 =>
  ((ldI g p1 0 (10 : Int32)).bind fun x3 =>
  (if 0 ≤ x3 then ((fX9_gathersFits g a0).bind fun q6 =>
  ((fX9_partsOf q6.2 a0 (0 : Int32)).bind fun q8 =>
  (fX9_ask_26 FUEL q8.2 a0 (0 : Int32) q8.1 (1 : Int32)))) else
  (some ((-1 : Int32), g)))))
theorem oX9_ask {g : PH} {a0 : Nat} {q : (Int32 × PH)} (h : fX9_ask g a0 = some q) : isO g a0 9 = true := by unfold fX9_ask at h; exact (okb_some h).1
theorem hyX9_ask : hMet yX9_ask RX9 cX9_ask 5 (some .int) 0 := ⟨wd_1568, wd_1566, wd_1567, wd_7, rfl, by decide +kernel, by decide +kernel, by decide +kernel⟩
set_option maxHeartbeats 4000000 in
set_option maxRecDepth 100000 in
theorem mX9_ask (l : Launch) (E : HE) (sz : Nat) {g g' : PH} {a0 : Nat} {r : Int32} (hf : fX9_ask g a0 = some (r, g')) : hM l E yX9_ask cX9_ask 5 (some .int) 10 236 0 0 sz g [.ref a0] (some (.int r)) g' := by
  refine hM.of (by decide) (Nat.le_of_ble_eq_true rfl) (fun K hl C hin hsz => ?_)
  subst hl
  subst hsz
  have C : VC K E 5 cX9_ask RX9 (some .int) := C
  unfold fX9_ask at hf
  replace hf := okb_some hf
  obtain ⟨ho, hf⟩ := hf
  refine V.start (L' := [(0, .ref a0)]) rfl ?_
  refine V.aload_n (pc := 0) C dX9_ask_0 0 rfl ?_
  replace hf := ob_some hf
  obtain ⟨p1, h2, hf⟩ := hf
  refine V.getR (pc := 1) C kX9 (k := 16) (by decide) wd_1066 h2 dX9_ask_1 ?_
  refine V.bipush (pc := 4) C dX9_ask_4 (v := (10 : Int32)) (by decide) ?_
  replace hf := ob_some hf
  obtain ⟨x3, h4, hf⟩ := hf
  refine V.iald (pc := 6) C h4 dX9_ask_6 ?_
  refine V.if_ge (pc := 7) (t := 12) C dX9_ask_7 (by decide) (fun c5 => ?_) (fun c5 => ?_)
  · replace hf := ite_t c5 hf
    refine V.aload_n (pc := 12) C dX9_ask_12 0 rfl ?_
    replace hf := ob_some hf
    obtain ⟨q6, h7, hf⟩ := hf
    refine V.callV0v (pc := 13) C hyX9_gathersFits wd_1541 (mX9_gathersFits (r := q6.1) (g' := q6.2) K.2.1 E (kS K) h7) rfl rfl rfl (oX9_gathersFits h7) ⟨Nat.le_of_ble_eq_true rfl, Nat.le_of_ble_eq_true rfl⟩ (Nat.le_of_ble_eq_true rfl) dX9_ask_13 ⟨Nat.zero_le _, Nat.zero_le _⟩ rfl ?_
    refine V.iconst (pc := 16) C dX9_ask_16 (v := (0 : Int32)) (by decide) ?_
    refine V.istore_n (pc := 17) (L' := [(1, .int (0 : Int32)), (0, .ref a0)]) C dX9_ask_17 (by decide) rfl ?_
    refine V.aload_n (pc := 18) C dX9_ask_18 1 rfl ?_
    refine V.iconst (pc := 19) C dX9_ask_19 (v := (0 : Int32)) (by decide) ?_
    replace hf := ob_some hf
    obtain ⟨q8, h9, hf⟩ := hf
    refine V.callV0i (pc := 20) C hyX9_partsOf wd_1557 (mX9_partsOf (r := q8.1) (g' := q8.2) K.2.1 E (kS K) h9) rfl rfl rfl (oX9_partsOf h9) ⟨Nat.le_of_ble_eq_true rfl, Nat.le_of_ble_eq_true rfl⟩ (Nat.le_of_ble_eq_true rfl) dX9_ask_20 ⟨Nat.zero_le _, Nat.zero_le _⟩ rfl ?_
    refine V.istore_n (pc := 23) (L' := [(2, .int q8.1), (1, .int (0 : Int32)), (0, .ref a0)]) C dX9_ask_23 (by decide) rfl ?_
    refine V.iconst (pc := 24) C dX9_ask_24 (v := (1 : Int32)) (by decide) ?_
    refine V.istore_n (pc := 25) (L' := [(3, .int (1 : Int32)), (2, .int q8.1), (1, .int (0 : Int32)), (0, .ref a0)]) C dX9_ask_25 (by decide) rfl ?_
    refine V.sub (L' := [(0, .ref a0), (1, .int (0 : Int32)), (2, .int q8.1), (3, .int (1 : Int32))]) [3, 2, 1, 0] rfl ?_
    exact bX9_ask_26 C  _ _ _ _ _ _ hf
  replace hf := ite_f c5 hf
  refine V.iconst (pc := 10) C dX9_ask_10 (v := (-1 : Int32)) (by decide) ?_
  obtain ⟨f1, f2⟩ := fin2 hf
  clear hf
  subst f1
  subst f2
  exact V.iret (pc := 11) C rfl dX9_ask_11
theorem dX9_draws_0 : decode cX9_draws 0 = .ok (.iload_n 1, 1) := by decide +kernel
theorem dX9_draws_1 : decode cX9_draws 1 = .ok (.ifCond .ge 5, 3) := by decide +kernel
theorem dX9_draws_4 : decode cX9_draws 4 = .ok (.iconst (-1), 1) := by decide +kernel
theorem dX9_draws_5 : decode cX9_draws 5 = .ok (.ireturn, 1) := by decide +kernel
theorem dX9_draws_6 : decode cX9_draws 6 = .ok (.aload_n 0, 1) := by decide +kernel
theorem dX9_draws_7 : decode cX9_draws 7 = .ok (.getfield 379, 3) := by decide +kernel
theorem dX9_draws_10 : decode cX9_draws 10 = .ok (.istore_n 2, 1) := by decide +kernel
theorem dX9_draws_11 : decode cX9_draws 11 = .ok (.aload_n 0, 1) := by decide +kernel
theorem dX9_draws_12 : decode cX9_draws 12 = .ok (.iload_n 1, 1) := by decide +kernel
theorem dX9_draws_13 : decode cX9_draws 13 = .ok (.putfield 379, 3) := by decide +kernel
theorem dX9_draws_16 : decode cX9_draws 16 = .ok (.iload_n 2, 1) := by decide +kernel
theorem dX9_draws_17 : decode cX9_draws 17 = .ok (.ireturn, 1) := by decide +kernel
def fX9_draws (g : PH) (a0 : Nat) (a1 : Int32) : Option (Int32 × PH) :=
  okb (isO g a0 9) (if 0 ≤ a1 then ((getI g a0 9 39).bind fun x2 =>
  ((putV g a0 9 39 (.int a1)).bind fun g4 =>
  (some (x2, g4)))) else
  (some ((-1 : Int32), g)))
theorem oX9_draws {g : PH} {a0 : Nat} {a1 : Int32} {q : (Int32 × PH)} (h : fX9_draws g a0 a1 = some q) : isO g a0 9 = true := by unfold fX9_draws at h; exact (okb_some h).1
theorem hyX9_draws : hMet yX9_draws RX9 cX9_draws 3 (some .int) 1 := ⟨wd_1572, wd_1570, wd_1571, wd_7, rfl, by decide +kernel, by decide +kernel, by decide +kernel⟩
set_option maxHeartbeats 4000000 in
set_option maxRecDepth 100000 in
theorem mX9_draws (l : Launch) (E : HE) (sz : Nat) {g g' : PH} {a0 : Nat} {a1 : Int32} {r : Int32} (hf : fX9_draws g a0 a1 = some (r, g')) : hM l E yX9_draws cX9_draws 3 (some .int) 0 0 0 0 sz g [.ref a0, .int a1] (some (.int r)) g' := by
  refine hM.of (by decide) (Nat.le_of_ble_eq_true rfl) (fun K hl C hin hsz => ?_)
  subst hl
  subst hsz
  have C : VC K E 3 cX9_draws RX9 (some .int) := C
  unfold fX9_draws at hf
  replace hf := okb_some hf
  obtain ⟨ho, hf⟩ := hf
  refine V.start (L' := [(0, .ref a0), (1, .int a1)]) rfl ?_
  refine V.iload_n (pc := 0) C dX9_draws_0 1 rfl ?_
  refine V.if_ge (pc := 1) (t := 6) C dX9_draws_1 (by decide) (fun c1 => ?_) (fun c1 => ?_)
  · replace hf := ite_t c1 hf
    refine V.aload_n (pc := 6) C dX9_draws_6 0 rfl ?_
    replace hf := ob_some hf
    obtain ⟨x2, h3, hf⟩ := hf
    refine V.getI (pc := 7) C kX9 (k := 39) (by decide) wd_1089 h3 dX9_draws_7 ?_
    refine V.istore_n (pc := 10) (L' := [(2, .int x2), (0, .ref a0), (1, .int a1)]) C dX9_draws_10 (by decide) rfl ?_
    refine V.aload_n (pc := 11) C dX9_draws_11 1 rfl ?_
    refine V.iload_n (pc := 12) C dX9_draws_12 2 rfl ?_
    replace hf := ob_some hf
    obtain ⟨g4, h5, hf⟩ := hf
    refine V.putX (pc := 13) C kX9 (k := 39) (by decide) wd_1089 rfl rfl rfl h5 dX9_draws_13 ?_
    refine V.iload_n (pc := 16) C dX9_draws_16 0 rfl ?_
    obtain ⟨f1, f2⟩ := fin2 hf
    clear hf
    subst f1
    subst f2
    exact V.iret (pc := 17) C rfl dX9_draws_17
  replace hf := ite_f c1 hf
  refine V.iconst (pc := 4) C dX9_draws_4 (v := (-1 : Int32)) (by decide) ?_
  obtain ⟨f1, f2⟩ := fin2 hf
  clear hf
  subst f1
  subst f2
  exact V.iret (pc := 5) C rfl dX9_draws_5
theorem dX9_draw_0 : decode cX9_draw 0 = .ok (.aload_n 0, 1) := by decide +kernel
theorem dX9_draw_1 : decode cX9_draw 1 = .ok (.aload_n 0, 1) := by decide +kernel
theorem dX9_draw_2 : decode cX9_draw 2 = .ok (.getfield 382, 3) := by decide +kernel
theorem dX9_draw_5 : decode cX9_draw 5 = .ok (.ldc2_w 386, 3) := by decide +kernel
theorem dX9_draw_8 : decode cX9_draw 8 = .ok (.lmul, 1) := by decide +kernel
theorem dX9_draw_9 : decode cX9_draw 9 = .ok (.ldc2_w 388, 3) := by decide +kernel
theorem dX9_draw_12 : decode cX9_draw 12 = .ok (.ladd, 1) := by decide +kernel
theorem dX9_draw_13 : decode cX9_draw 13 = .ok (.ldc2_w 390, 3) := by decide +kernel
theorem dX9_draw_16 : decode cX9_draw 16 = .ok (.lrem, 1) := by decide +kernel
theorem dX9_draw_17 : decode cX9_draw 17 = .ok (.putfield 382, 3) := by decide +kernel
theorem dX9_draw_20 : decode cX9_draw 20 = .ok (.aload_n 0, 1) := by decide +kernel
theorem dX9_draw_21 : decode cX9_draw 21 = .ok (.getfield 382, 3) := by decide +kernel
theorem dX9_draw_24 : decode cX9_draw 24 = .ok (.ldc2_w 392, 3) := by decide +kernel
theorem dX9_draw_27 : decode cX9_draw 27 = .ok (.ldiv, 1) := by decide +kernel
theorem dX9_draw_28 : decode cX9_draw 28 = .ok (.iload_n 1, 1) := by decide +kernel
theorem dX9_draw_29 : decode cX9_draw 29 = .ok (.i2l, 1) := by decide +kernel
theorem dX9_draw_30 : decode cX9_draw 30 = .ok (.lrem, 1) := by decide +kernel
theorem dX9_draw_31 : decode cX9_draw 31 = .ok (.l2i, 1) := by decide +kernel
theorem dX9_draw_32 : decode cX9_draw 32 = .ok (.ireturn, 1) := by decide +kernel
def fX9_draw (g : PH) (a0 : Nat) (a1 : Int32) : Option (Int32 × PH) :=
  okb (isO g a0 9) ((getL g a0 9 40).bind fun x1 =>
  ((putV g a0 9 40 (.long (((x1 * (1103515245 : Int64)) + (12345 : Int64)) - ((x1 * (1103515245 : Int64)) + (12345 : Int64)) / (2147483648 : Int64) * (2147483648 : Int64)))).bind fun g3 =>
  ((getL g3 a0 9 40).bind fun x5 =>
  (okb (decide (¬ a1.toInt64 = 0)) (some (((x5 / (65536 : Int64)) - (x5 / (65536 : Int64)) / a1.toInt64 * a1.toInt64).toInt32, g3))))))
theorem oX9_draw {g : PH} {a0 : Nat} {a1 : Int32} {q : (Int32 × PH)} (h : fX9_draw g a0 a1 = some q) : isO g a0 9 = true := by unfold fX9_draw at h; exact (okb_some h).1
theorem hyX9_draw : hMet yX9_draw RX9 cX9_draw 2 (some .int) 1 := ⟨wd_1581, wd_1580, ws_116, wd_7, rfl, by decide +kernel, by decide +kernel, by decide +kernel⟩
set_option maxHeartbeats 4000000 in
set_option maxRecDepth 100000 in
theorem mX9_draw (l : Launch) (E : HE) (sz : Nat) {g g' : PH} {a0 : Nat} {a1 : Int32} {r : Int32} (hf : fX9_draw g a0 a1 = some (r, g')) : hM l E yX9_draw cX9_draw 2 (some .int) 0 0 0 0 sz g [.ref a0, .int a1] (some (.int r)) g' := by
  refine hM.of (by decide) (Nat.le_of_ble_eq_true rfl) (fun K hl C hin hsz => ?_)
  subst hl
  subst hsz
  have C : VC K E 2 cX9_draw RX9 (some .int) := C
  unfold fX9_draw at hf
  replace hf := okb_some hf
  obtain ⟨ho, hf⟩ := hf
  refine V.start (L' := [(0, .ref a0), (1, .int a1)]) rfl ?_
  refine V.aload_n (pc := 0) C dX9_draw_0 0 rfl ?_
  refine V.aload_n (pc := 1) C dX9_draw_1 0 rfl ?_
  replace hf := ob_some hf
  obtain ⟨x1, h2, hf⟩ := hf
  refine V.getL (pc := 2) C kX9 (k := 40) (by decide) wd_1090 h2 dX9_draw_2 ?_
  refine V.ldc2 (pc := 5) C wd_1582 dX9_draw_5 ?_
  refine V.lmul (pc := 8) C dX9_draw_8 ?_
  refine V.ldc2 (pc := 9) C wd_1583 dX9_draw_9 ?_
  refine V.ladd (pc := 12) C dX9_draw_12 ?_
  refine V.ldc2 (pc := 13) C wd_1584 dX9_draw_13 ?_
  refine V.lrem (pc := 16) C dX9_draw_16 (by decide) ?_
  replace hf := ob_some hf
  obtain ⟨g3, h4, hf⟩ := hf
  refine V.putX (pc := 17) C kX9 (k := 40) (by decide) wd_1090 rfl rfl rfl h4 dX9_draw_17 ?_
  refine V.aload_n (pc := 20) C dX9_draw_20 0 rfl ?_
  replace hf := ob_some hf
  obtain ⟨x5, h6, hf⟩ := hf
  refine V.getL (pc := 21) C kX9 (k := 40) (by decide) wd_1090 h6 dX9_draw_21 ?_
  refine V.ldc2 (pc := 24) C wd_1585 dX9_draw_24 ?_
  refine V.ldiv (pc := 27) C dX9_draw_27 (by decide) ?_
  refine V.iload_n (pc := 28) C dX9_draw_28 1 rfl ?_
  refine V.i2l (pc := 29) C dX9_draw_29 ?_
  replace hf := okb_some hf
  obtain ⟨h7, hf⟩ := hf
  refine V.lrem (pc := 30) C dX9_draw_30 (of_decide_eq_true h7) ?_
  refine V.l2i (pc := 31) C dX9_draw_31 ?_
  obtain ⟨f1, f2⟩ := fin2 hf
  clear hf
  subst f1
  subst f2
  exact V.iret (pc := 32) C rfl dX9_draw_32
theorem dX9_drawn_0 : decode cX9_drawn 0 = .ok (.aload_n 0, 1) := by decide +kernel
theorem dX9_drawn_1 : decode cX9_drawn 1 = .ok (.iload_n 1, 1) := by decide +kernel
theorem dX9_drawn_2 : decode cX9_drawn 2 = .ok (.invokevirtual 263, 3) := by decide +kernel
theorem dX9_drawn_5 : decode cX9_drawn 5 = .ok (.ifCond .eq 22, 3) := by decide +kernel
theorem dX9_drawn_8 : decode cX9_drawn 8 = .ok (.iload_n 2, 1) := by decide +kernel
theorem dX9_drawn_9 : decode cX9_drawn 9 = .ok (.i2l, 1) := by decide +kernel
theorem dX9_drawn_10 : decode cX9_drawn 10 = .ok (.lconst 1, 1) := by decide +kernel
theorem dX9_drawn_11 : decode cX9_drawn 11 = .ok (.ldc2_w 394, 3) := by decide +kernel
theorem dX9_drawn_14 : decode cX9_drawn 14 = .ok (.invokestatic 86, 3) := by decide +kernel
theorem dX9_drawn_17 : decode cX9_drawn 17 = .ok (.ifCond .eq 10, 3) := by decide +kernel
theorem dX9_drawn_20 : decode cX9_drawn 20 = .ok (.aload_n 0, 1) := by decide +kernel
theorem dX9_drawn_21 : decode cX9_drawn 21 = .ok (.getfield 119, 3) := by decide +kernel
theorem dX9_drawn_24 : decode cX9_drawn 24 = .ok (.ifCond .ne 5, 3) := by decide +kernel
theorem dX9_drawn_27 : decode cX9_drawn 27 = .ok (.iconst (-1), 1) := by decide +kernel
theorem dX9_drawn_28 : decode cX9_drawn 28 = .ok (.ireturn, 1) := by decide +kernel
theorem dX9_drawn_29 : decode cX9_drawn 29 = .ok (.aload_n 0, 1) := by decide +kernel
theorem dX9_drawn_30 : decode cX9_drawn 30 = .ok (.aload_n 0, 1) := by decide +kernel
theorem dX9_drawn_31 : decode cX9_drawn 31 = .ok (.getfield 379, 3) := by decide +kernel
theorem dX9_drawn_34 : decode cX9_drawn 34 = .ok (.i2l, 1) := by decide +kernel
theorem dX9_drawn_35 : decode cX9_drawn 35 = .ok (.putfield 382, 3) := by decide +kernel
theorem dX9_drawn_38 : decode cX9_drawn 38 = .ok (.iconst 0, 1) := by decide +kernel
theorem dX9_drawn_39 : decode cX9_drawn 39 = .ok (.istore_n 3, 1) := by decide +kernel
theorem dX9_drawn_40 : decode cX9_drawn 40 = .ok (.aload_n 0, 1) := by decide +kernel
theorem dX9_drawn_41 : decode cX9_drawn 41 = .ok (.invokevirtual 270, 3) := by decide +kernel
theorem dX9_drawn_44 : decode cX9_drawn 44 = .ok (.iconst 0, 1) := by decide +kernel
theorem dX9_drawn_45 : decode cX9_drawn 45 = .ok (.istore 4, 2) := by decide +kernel
theorem dX9_drawn_47 : decode cX9_drawn 47 = .ok (.iload 4, 2) := by decide +kernel
theorem dX9_drawn_49 : decode cX9_drawn 49 = .ok (.iload_n 2, 1) := by decide +kernel
theorem dX9_drawn_50 : decode cX9_drawn 50 = .ok (.if_icmp .ge 85, 3) := by decide +kernel
theorem dX9_drawn_53 : decode cX9_drawn 53 = .ok (.aload_n 0, 1) := by decide +kernel
theorem dX9_drawn_54 : decode cX9_drawn 54 = .ok (.aload_n 0, 1) := by decide +kernel
theorem dX9_drawn_55 : decode cX9_drawn 55 = .ok (.getfield 119, 3) := by decide +kernel
theorem dX9_drawn_58 : decode cX9_drawn 58 = .ok (.invokevirtual 396, 3) := by decide +kernel
theorem dX9_drawn_61 : decode cX9_drawn 61 = .ok (.istore 5, 2) := by decide +kernel
theorem dX9_drawn_63 : decode cX9_drawn 63 = .ok (.aload_n 0, 1) := by decide +kernel
theorem dX9_drawn_64 : decode cX9_drawn 64 = .ok (.iload 5, 2) := by decide +kernel
theorem dX9_drawn_66 : decode cX9_drawn 66 = .ok (.aload_n 0, 1) := by decide +kernel
theorem dX9_drawn_67 : decode cX9_drawn 67 = .ok (.aload_n 0, 1) := by decide +kernel
theorem dX9_drawn_68 : decode cX9_drawn 68 = .ok (.iload 5, 2) := by decide +kernel
theorem dX9_drawn_70 : decode cX9_drawn 70 = .ok (.invokevirtual 260, 3) := by decide +kernel
theorem dX9_drawn_73 : decode cX9_drawn 73 = .ok (.invokevirtual 396, 3) := by decide +kernel
theorem dX9_drawn_76 : decode cX9_drawn 76 = .ok (.invokevirtual 273, 3) := by decide +kernel
theorem dX9_drawn_79 : decode cX9_drawn 79 = .ok (.aload_n 0, 1) := by decide +kernel
theorem dX9_drawn_80 : decode cX9_drawn 80 = .ok (.iload 5, 2) := by decide +kernel
theorem dX9_drawn_82 : decode cX9_drawn 82 = .ok (.aload_n 0, 1) := by decide +kernel
theorem dX9_drawn_83 : decode cX9_drawn 83 = .ok (.getfield 240, 3) := by decide +kernel
theorem dX9_drawn_86 : decode cX9_drawn 86 = .ok (.aload_n 0, 1) := by decide +kernel
theorem dX9_drawn_87 : decode cX9_drawn 87 = .ok (.getfield 243, 3) := by decide +kernel
theorem dX9_drawn_90 : decode cX9_drawn 90 = .ok (.aload_n 0, 1) := by decide +kernel
theorem dX9_drawn_91 : decode cX9_drawn 91 = .ok (.iconst 1, 1) := by decide +kernel
theorem dX9_drawn_92 : decode cX9_drawn 92 = .ok (.aload_n 0, 1) := by decide +kernel
theorem dX9_drawn_93 : decode cX9_drawn 93 = .ok (.getfield 180, 3) := by decide +kernel
theorem dX9_drawn_96 : decode cX9_drawn 96 = .ok (.ishl, 1) := by decide +kernel
theorem dX9_drawn_97 : decode cX9_drawn 97 = .ok (.invokevirtual 396, 3) := by decide +kernel
theorem dX9_drawn_100 : decode cX9_drawn 100 = .ok (.invokevirtual 249, 3) := by decide +kernel
theorem dX9_drawn_103 : decode cX9_drawn 103 = .ok (.aload_n 0, 1) := by decide +kernel
theorem dX9_drawn_104 : decode cX9_drawn 104 = .ok (.iload_n 1, 1) := by decide +kernel
theorem dX9_drawn_105 : decode cX9_drawn 105 = .ok (.aload_n 0, 1) := by decide +kernel
theorem dX9_drawn_106 : decode cX9_drawn 106 = .ok (.bipush 8, 2) := by decide +kernel
theorem dX9_drawn_108 : decode cX9_drawn 108 = .ok (.invokevirtual 396, 3) := by decide +kernel
theorem dX9_drawn_111 : decode cX9_drawn 111 = .ok (.invokevirtual 252, 3) := by decide +kernel
theorem dX9_drawn_114 : decode cX9_drawn 114 = .ok (.iload_n 3, 1) := by decide +kernel
theorem dX9_drawn_115 : decode cX9_drawn 115 = .ok (.aload_n 0, 1) := by decide +kernel
theorem dX9_drawn_116 : decode cX9_drawn 116 = .ok (.getfield 222, 3) := by decide +kernel
theorem dX9_drawn_119 : decode cX9_drawn 119 = .ok (.ifCond .le 7, 3) := by decide +kernel
theorem dX9_drawn_122 : decode cX9_drawn 122 = .ok (.iconst 1, 1) := by decide +kernel
theorem dX9_drawn_123 : decode cX9_drawn 123 = .ok (.goto 4, 3) := by decide +kernel
theorem dX9_drawn_126 : decode cX9_drawn 126 = .ok (.iconst 0, 1) := by decide +kernel
theorem dX9_drawn_127 : decode cX9_drawn 127 = .ok (.iadd, 1) := by decide +kernel
theorem dX9_drawn_128 : decode cX9_drawn 128 = .ok (.istore_n 3, 1) := by decide +kernel
theorem dX9_drawn_129 : decode cX9_drawn 129 = .ok (.iinc 4 1, 3) := by decide +kernel
theorem dX9_drawn_132 : decode cX9_drawn 132 = .ok (.goto (-85), 3) := by decide +kernel
theorem dX9_drawn_135 : decode cX9_drawn 135 = .ok (.aload_n 0, 1) := by decide +kernel
theorem dX9_drawn_136 : decode cX9_drawn 136 = .ok (.invokevirtual 282, 3) := by decide +kernel
theorem dX9_drawn_139 : decode cX9_drawn 139 = .ok (.iload_n 3, 1) := by decide +kernel
theorem dX9_drawn_140 : decode cX9_drawn 140 = .ok (.ireturn, 1) := by decide +kernel
def fX9_drawn_127 (k47 : PH → Nat → Int32 → Int32 → Int32 → Int32 → Option (Int32 × PH)) (g : PH) (v0 : Nat) (v1 : Int32) (v2 : Int32) (v4 : Int32) (s0 : Int32) (s1 : Int32) : Option (Int32 × PH) :=
  k47 g v0 v1 v2 (s1 + s0) (v4 + (1 : Int32))
set_option maxHeartbeats 4000000 in
set_option maxRecDepth 100000 in
theorem bX9_drawn_127 {K : HK} {E : HE} {r : Int32} {g' : PH} {k47 : PH → Nat → Int32 → Int32 → Int32 → Int32 → Option (Int32 × PH)} (C : VC K E 6 cX9_drawn RX9 (some .int)) (hk47 : ∀ (g : PH) (v0 : Nat) (v1 : Int32) (v2 : Int32) (v3 : Int32) (v4 : Int32), k47 g v0 v1 v2 v3 v4 = some (r, g') → V K E (hRm 8 192 0 0) 6 (hZ K E (some (.int r)) g' 0 0) 0 0 (kS K) g 47 [(0, .ref v0), (1, .int v1), (2, .int v2), (3, .int v3), (4, .int v4)] []) {g : PH} {v0 : Nat} {v1 : Int32} {v2 : Int32} {v4 : Int32} {s0 : Int32} {s1 : Int32} (hf : fX9_drawn_127 k47 g v0 v1 v2 v4 s0 s1 = some (r, g')) : V K E (hRm 8 192 0 0) 6 (hZ K E (some (.int r)) g' 0 0) 0 0 (kS K) g 127 [(0, .ref v0), (1, .int v1), (2, .int v2), (4, .int v4)] [.int s0, .int s1] := by
  unfold fX9_drawn_127 at hf
  refine V.iadd (pc := 127) C dX9_drawn_127 ?_
  refine V.istore_n (pc := 128) (L' := [(3, .int (s1 + s0)), (0, .ref v0), (1, .int v1), (2, .int v2), (4, .int v4)]) C dX9_drawn_128 (by decide) rfl ?_
  refine V.iinc (pc := 129) (v := (v4 + (1 : Int32))) (L' := [(4, .int (v4 + (1 : Int32))), (3, .int (s1 + s0)), (0, .ref v0), (1, .int v1), (2, .int v2)]) C dX9_drawn_129 4 rfl rfl (by decide) rfl ?_
  refine V.goto (pc := 132) (t := 47) C dX9_drawn_132 (by decide) ?_
  refine V.sub (L' := [(0, .ref v0), (1, .int v1), (2, .int v2), (3, .int (s1 + s0)), (4, .int (v4 + (1 : Int32)))]) [2, 3, 4, 1, 0] rfl ?_
  exact hk47 _ _ _ _ _ _ hf
def fX9_drawn_47  : Nat → PH → Nat → Int32 → Int32 → Int32 → Int32 → Option (Int32 × PH)
  | 0, _, _, _, _, _, _ => none
  | n + 1, g, v0, v1, v2, v3, v4 =>
  if v2 ≤ v4 then ((fX9_laysBack g v0).bind fun q2 =>
  (some (v3, q2.2))) else
  ((getI g v0 9 7).bind fun x4 =>
  ((fX9_draw g v0 x4).bind fun q6 =>
  ((fX9_placements q6.2 v0 q6.1).bind fun q8 =>
  ((fX9_draw q8.2 v0 q8.1).bind fun q10 =>
  ((fX9_laysPlace q10.2 v0 q6.1 q10.1).bind fun q12 =>
  ((getI q12.2 v0 9 23).bind fun x14 =>
  ((getI q12.2 v0 9 24).bind fun x16 =>
  ((getI q12.2 v0 9 15).bind fun x18 =>
  ((fX9_draw q12.2 v0 ((1 : Int32) <<< (x18 &&& 31))).bind fun q20 =>
  ((fX9_tries q20.2 v0 q6.1 x14 x16 q20.1).bind fun q22 =>
  ((fX9_draw q22.2 v0 (8 : Int32)).bind fun q24 =>
  ((fX9_goesThrough q24.2 v0 v1 q24.1).bind fun q26 =>
  ((getI q26.2 v0 9 20).bind fun x28 =>
  (if x28 ≤ 0 then (fX9_drawn_127 (fX9_drawn_47 n) q26.2 v0 v1 v2 v4 (0 : Int32) v3) else
  (fX9_drawn_127 (fX9_drawn_47 n) q26.2 v0 v1 v2 v4 (1 : Int32) v3)))))))))))))))
set_option maxHeartbeats 4000000 in
set_option maxRecDepth 100000 in
theorem bX9_drawn_47 {K : HK} {E : HE} {r : Int32} {g' : PH}  (C : VC K E 6 cX9_drawn RX9 (some .int))  : ∀ (n : Nat) (g : PH) (v0 : Nat) (v1 : Int32) (v2 : Int32) (v3 : Int32) (v4 : Int32), fX9_drawn_47  n g v0 v1 v2 v3 v4 = some (r, g') → V K E (hRm 8 192 0 0) 6 (hZ K E (some (.int r)) g' 0 0) 0 0 (kS K) g 47 [(0, .ref v0), (1, .int v1), (2, .int v2), (3, .int v3), (4, .int v4)] [] := by
  intro n
  induction n with
  | zero =>
    intro g v0 v1 v2 v3 v4 hf
    rw [fX9_drawn_47] at hf
    cases hf
  | succ n ih =>
    intro g v0 v1 v2 v3 v4 hf
    rw [fX9_drawn_47] at hf
    refine V.iload (pc := 47) C dX9_drawn_47 4 rfl ?_
    refine V.iload_n (pc := 49) C dX9_drawn_49 2 rfl ?_
    refine V.icmp_ge (pc := 50) (t := 135) C dX9_drawn_50 (by decide) (fun c1 => ?_) (fun c1 => ?_)
    · replace hf := ite_t c1 hf
      refine V.aload_n (pc := 135) C dX9_drawn_135 0 rfl ?_
      replace hf := ob_some hf
      obtain ⟨q2, h3, hf⟩ := hf
      refine V.callV0v (pc := 136) C hyX9_laysBack wd_1388 (mX9_laysBack (r := q2.1) (g' := q2.2) K.2.1 E (kS K) h3) rfl rfl rfl (oX9_laysBack h3) ⟨Nat.le_of_ble_eq_true rfl, Nat.le_of_ble_eq_true rfl⟩ (Nat.le_of_ble_eq_true rfl) dX9_drawn_136 ⟨Nat.zero_le _, Nat.zero_le _⟩ rfl ?_
      refine V.iload_n (pc := 139) C dX9_drawn_139 3 rfl ?_
      obtain ⟨f1, f2⟩ := fin2 hf
      clear hf
      subst f1
      subst f2
      exact V.iret (pc := 140) C rfl dX9_drawn_140
    replace hf := ite_f c1 hf
    refine V.aload_n (pc := 53) C dX9_drawn_53 0 rfl ?_
    refine V.aload_n (pc := 54) C dX9_drawn_54 0 rfl ?_
    replace hf := ob_some hf
    obtain ⟨x4, h5, hf⟩ := hf
    refine V.getI (pc := 55) C kX9 (k := 7) (by decide) wd_1057 h5 dX9_drawn_55 ?_
    replace hf := ob_some hf
    obtain ⟨q6, h7, hf⟩ := hf
    refine V.callV0i (pc := 58) C hyX9_draw wd_1578 (mX9_draw (r := q6.1) (g' := q6.2) K.2.1 E (kS K) h7) rfl rfl rfl (oX9_draw h7) ⟨Nat.le_of_ble_eq_true rfl, Nat.le_of_ble_eq_true rfl⟩ (Nat.le_of_ble_eq_true rfl) dX9_drawn_58 ⟨Nat.zero_le _, Nat.zero_le _⟩ rfl ?_
    refine V.istore (pc := 61) (L' := [(5, .int q6.1), (0, .ref v0), (1, .int v1), (2, .int v2), (3, .int v3), (4, .int v4)]) C dX9_drawn_61 (by decide) rfl ?_
    refine V.aload_n (pc := 63) C dX9_drawn_63 1 rfl ?_
    refine V.iload (pc := 64) C dX9_drawn_64 0 rfl ?_
    refine V.aload_n (pc := 66) C dX9_drawn_66 1 rfl ?_
    refine V.aload_n (pc := 67) C dX9_drawn_67 1 rfl ?_
    refine V.iload (pc := 68) C dX9_drawn_68 0 rfl ?_
    replace hf := ob_some hf
    obtain ⟨q8, h9, hf⟩ := hf
    refine V.callV0i (pc := 70) C hyX9_placements wd_1279 (mX9_placements (r := q8.1) (g' := q8.2) K.2.1 E (kS K) h9) rfl rfl rfl (oX9_placements h9) ⟨Nat.le_of_ble_eq_true rfl, Nat.le_of_ble_eq_true rfl⟩ (Nat.le_of_ble_eq_true rfl) dX9_drawn_70 ⟨Nat.zero_le _, Nat.zero_le _⟩ rfl ?_
    replace hf := ob_some hf
    obtain ⟨q10, h11, hf⟩ := hf
    refine V.callV0i (pc := 73) C hyX9_draw wd_1578 (mX9_draw (r := q10.1) (g' := q10.2) K.2.1 E (kS K) h11) rfl rfl rfl (oX9_draw h11) ⟨Nat.le_of_ble_eq_true rfl, Nat.le_of_ble_eq_true rfl⟩ (Nat.le_of_ble_eq_true rfl) dX9_drawn_73 ⟨Nat.zero_le _, Nat.zero_le _⟩ rfl ?_
    replace hf := ob_some hf
    obtain ⟨q12, h13, hf⟩ := hf
    refine V.callV0v (pc := 76) C hyX9_laysPlace wd_1313 (mX9_laysPlace (r := q12.1) (g' := q12.2) K.2.1 E (kS K) h13) rfl rfl rfl (oX9_laysPlace h13) ⟨Nat.le_of_ble_eq_true rfl, Nat.le_of_ble_eq_true rfl⟩ (Nat.le_of_ble_eq_true rfl) dX9_drawn_76 ⟨Nat.zero_le _, Nat.zero_le _⟩ rfl ?_
    refine V.aload_n (pc := 79) C dX9_drawn_79 1 rfl ?_
    refine V.iload (pc := 80) C dX9_drawn_80 0 rfl ?_
    refine V.aload_n (pc := 82) C dX9_drawn_82 1 rfl ?_
    replace hf := ob_some hf
    obtain ⟨x14, h15, hf⟩ := hf
    refine V.getI (pc := 83) C kX9 (k := 23) (by decide) wd_1073 h15 dX9_drawn_83 ?_
    refine V.aload_n (pc := 86) C dX9_drawn_86 1 rfl ?_
    replace hf := ob_some hf
    obtain ⟨x16, h17, hf⟩ := hf
    refine V.getI (pc := 87) C kX9 (k := 24) (by decide) wd_1074 h17 dX9_drawn_87 ?_
    refine V.aload_n (pc := 90) C dX9_drawn_90 1 rfl ?_
    refine V.iconst (pc := 91) C dX9_drawn_91 (v := (1 : Int32)) (by decide) ?_
    refine V.aload_n (pc := 92) C dX9_drawn_92 1 rfl ?_
    replace hf := ob_some hf
    obtain ⟨x18, h19, hf⟩ := hf
    refine V.getI (pc := 93) C kX9 (k := 15) (by decide) wd_1065 h19 dX9_drawn_93 ?_
    refine V.ishl (pc := 96) C dX9_drawn_96 ?_
    replace hf := ob_some hf
    obtain ⟨q20, h21, hf⟩ := hf
    refine V.callV0i (pc := 97) C hyX9_draw wd_1578 (mX9_draw (r := q20.1) (g' := q20.2) K.2.1 E (kS K) h21) rfl rfl rfl (oX9_draw h21) ⟨Nat.le_of_ble_eq_true rfl, Nat.le_of_ble_eq_true rfl⟩ (Nat.le_of_ble_eq_true rfl) dX9_drawn_97 ⟨Nat.zero_le _, Nat.zero_le _⟩ rfl ?_
    replace hf := ob_some hf
    obtain ⟨q22, h23, hf⟩ := hf
    refine V.callV0v (pc := 100) C hyX9_tries wd_1325 (mX9_tries (r := q22.1) (g' := q22.2) K.2.1 E (kS K) h23) rfl rfl rfl (oX9_tries h23) ⟨Nat.le_of_ble_eq_true rfl, Nat.le_of_ble_eq_true rfl⟩ (Nat.le_of_ble_eq_true rfl) dX9_drawn_100 ⟨Nat.zero_le _, Nat.zero_le _⟩ rfl ?_
    refine V.aload_n (pc := 103) C dX9_drawn_103 1 rfl ?_
    refine V.iload_n (pc := 104) C dX9_drawn_104 2 rfl ?_
    refine V.aload_n (pc := 105) C dX9_drawn_105 1 rfl ?_
    refine V.bipush (pc := 106) C dX9_drawn_106 (v := (8 : Int32)) (by decide) ?_
    replace hf := ob_some hf
    obtain ⟨q24, h25, hf⟩ := hf
    refine V.callV0i (pc := 108) C hyX9_draw wd_1578 (mX9_draw (r := q24.1) (g' := q24.2) K.2.1 E (kS K) h25) rfl rfl rfl (oX9_draw h25) ⟨Nat.le_of_ble_eq_true rfl, Nat.le_of_ble_eq_true rfl⟩ (Nat.le_of_ble_eq_true rfl) dX9_drawn_108 ⟨Nat.zero_le _, Nat.zero_le _⟩ rfl ?_
    replace hf := ob_some hf
    obtain ⟨q26, h27, hf⟩ := hf
    refine V.callV0v (pc := 111) C hyX9_goesThrough wd_1352 (mX9_goesThrough (r := q26.1) (g' := q26.2) K.2.1 E (kS K) h27) rfl rfl rfl (oX9_goesThrough h27) ⟨Nat.le_of_ble_eq_true rfl, Nat.le_of_ble_eq_true rfl⟩ (Nat.le_of_ble_eq_true rfl) dX9_drawn_111 ⟨Nat.zero_le _, Nat.zero_le _⟩ rfl ?_
    refine V.iload_n (pc := 114) C dX9_drawn_114 4 rfl ?_
    refine V.aload_n (pc := 115) C dX9_drawn_115 1 rfl ?_
    replace hf := ob_some hf
    obtain ⟨x28, h29, hf⟩ := hf
    refine V.getI (pc := 116) C kX9 (k := 20) (by decide) wd_1070 h29 dX9_drawn_116 ?_
    refine V.if_le (pc := 119) (t := 126) C dX9_drawn_119 (by decide) (fun c30 => ?_) (fun c30 => ?_)
    · replace hf := ite_t c30 hf
      refine V.iconst (pc := 126) C dX9_drawn_126 (v := (0 : Int32)) (by decide) ?_
      refine V.sub (L' := [(0, .ref v0), (1, .int v1), (2, .int v2), (4, .int v4)]) [1, 2, 3, 5] rfl ?_
      exact bX9_drawn_127 C ih hf
    replace hf := ite_f c30 hf
    refine V.iconst (pc := 122) C dX9_drawn_122 (v := (1 : Int32)) (by decide) ?_
    refine V.goto (pc := 123) (t := 127) C dX9_drawn_123 (by decide) ?_
    refine V.sub (L' := [(0, .ref v0), (1, .int v1), (2, .int v2), (4, .int v4)]) [1, 2, 3, 5] rfl ?_
    exact bX9_drawn_127 C ih hf
def fX9_drawn (g : PH) (a0 : Nat) (a1 : Int32) (a2 : Int32) : Option (Int32 × PH) :=
  okb (isO g a0 9) ((fX9_isMarch g a0 a1).bind fun q1 =>
  (if q1.1 = 0 then (some ((-1 : Int32), q1.2)) else
  ((fX9_isIn q1.2 a2.toInt64 (1 : Int64) (50 : Int64)).bind fun q4 =>
  (if q4.1 = 0 then (some ((-1 : Int32), q4.2)) else
  ((getI q4.2 a0 9 7).bind fun x7 =>
  (if x7 = 0 then (some ((-1 : Int32), q4.2)) else
  ((getI q4.2 a0 9 39).bind fun x10 =>
  ((putV q4.2 a0 9 40 (.long x10.toInt64)).bind fun g12 =>
  ((fX9_keepsAside g12 a0).bind fun q14 =>
  (fX9_drawn_47 FUEL q14.2 a0 a1 a2 (0 : Int32) (0 : Int32)))))))))))
theorem oX9_drawn {g : PH} {a0 : Nat} {a1 : Int32} {a2 : Int32} {q : (Int32 × PH)} (h : fX9_drawn g a0 a1 a2 = some q) : isO g a0 9 = true := by unfold fX9_drawn at h; exact (okb_some h).1
theorem hyX9_drawn : hMet yX9_drawn RX9 cX9_drawn 6 (some .int) 2 := ⟨wd_1576, wd_1574, wd_1575, wd_7, rfl, by decide +kernel, by decide +kernel, by decide +kernel⟩
set_option maxHeartbeats 4000000 in
set_option maxRecDepth 100000 in
theorem mX9_drawn (l : Launch) (E : HE) (sz : Nat) {g g' : PH} {a0 : Nat} {a1 : Int32} {a2 : Int32} {r : Int32} (hf : fX9_drawn g a0 a1 a2 = some (r, g')) : hM l E yX9_drawn cX9_drawn 6 (some .int) 8 192 0 0 sz g [.ref a0, .int a1, .int a2] (some (.int r)) g' := by
  refine hM.of (by decide) (Nat.le_of_ble_eq_true rfl) (fun K hl C hin hsz => ?_)
  subst hl
  subst hsz
  have C : VC K E 6 cX9_drawn RX9 (some .int) := C
  unfold fX9_drawn at hf
  replace hf := okb_some hf
  obtain ⟨ho, hf⟩ := hf
  refine V.start (L' := [(0, .ref a0), (1, .int a1), (2, .int a2)]) rfl ?_
  refine V.aload_n (pc := 0) C dX9_drawn_0 0 rfl ?_
  refine V.iload_n (pc := 1) C dX9_drawn_1 1 rfl ?_
  replace hf := ob_some hf
  obtain ⟨q1, h2, hf⟩ := hf
  refine V.callV0i (pc := 2) C hyX9_isMarch wd_1287 (mX9_isMarch (r := q1.1) (g' := q1.2) K.2.1 E (kS K) h2) rfl rfl rfl (oX9_isMarch h2) ⟨Nat.le_of_ble_eq_true rfl, Nat.le_of_ble_eq_true rfl⟩ (Nat.le_of_ble_eq_true rfl) dX9_drawn_2 ⟨Nat.zero_le _, Nat.zero_le _⟩ rfl ?_
  refine V.if_eq (pc := 5) (t := 27) C dX9_drawn_5 (by decide) (fun c3 => ?_) (fun c3 => ?_)
  · replace hf := ite_t c3 hf
    refine V.iconst (pc := 27) C dX9_drawn_27 (v := (-1 : Int32)) (by decide) ?_
    obtain ⟨f1, f2⟩ := fin2 hf
    clear hf
    subst f1
    subst f2
    exact V.iret (pc := 28) C rfl dX9_drawn_28
  replace hf := ite_f c3 hf
  refine V.iload_n (pc := 8) C dX9_drawn_8 2 rfl ?_
  refine V.i2l (pc := 9) C dX9_drawn_9 ?_
  refine V.lconst (pc := 10) C dX9_drawn_10 (v := (1 : Int64)) (by decide) ?_
  refine V.ldc2 (pc := 11) C wd_1577 dX9_drawn_11 ?_
  replace hf := ob_some hf
  obtain ⟨q4, h5, hf⟩ := hf
  refine V.callS0i (pc := 14) C hyX9_isIn wd_1182 (mX9_isIn (r := q4.1) (g' := q4.2) K.2.1 E (kS K) h5) rfl ⟨Nat.le_of_ble_eq_true rfl, Nat.le_of_ble_eq_true rfl⟩ (Nat.le_of_ble_eq_true rfl) dX9_drawn_14 ⟨Nat.zero_le _, Nat.zero_le _⟩ rfl ?_
  refine V.if_eq (pc := 17) (t := 27) C dX9_drawn_17 (by decide) (fun c6 => ?_) (fun c6 => ?_)
  · replace hf := ite_t c6 hf
    refine V.iconst (pc := 27) C dX9_drawn_27 (v := (-1 : Int32)) (by decide) ?_
    obtain ⟨f1, f2⟩ := fin2 hf
    clear hf
    subst f1
    subst f2
    exact V.iret (pc := 28) C rfl dX9_drawn_28
  replace hf := ite_f c6 hf
  refine V.aload_n (pc := 20) C dX9_drawn_20 0 rfl ?_
  replace hf := ob_some hf
  obtain ⟨x7, h8, hf⟩ := hf
  refine V.getI (pc := 21) C kX9 (k := 7) (by decide) wd_1057 h8 dX9_drawn_21 ?_
  refine V.if_ne (pc := 24) (t := 29) C dX9_drawn_24 (by decide) (fun c9 => ?_) (fun c9 => ?_)
  · replace hf := ite_f c9 hf
    refine V.aload_n (pc := 29) C dX9_drawn_29 0 rfl ?_
    refine V.aload_n (pc := 30) C dX9_drawn_30 0 rfl ?_
    replace hf := ob_some hf
    obtain ⟨x10, h11, hf⟩ := hf
    refine V.getI (pc := 31) C kX9 (k := 39) (by decide) wd_1089 h11 dX9_drawn_31 ?_
    refine V.i2l (pc := 34) C dX9_drawn_34 ?_
    replace hf := ob_some hf
    obtain ⟨g12, h13, hf⟩ := hf
    refine V.putX (pc := 35) C kX9 (k := 40) (by decide) wd_1090 rfl rfl rfl h13 dX9_drawn_35 ?_
    refine V.iconst (pc := 38) C dX9_drawn_38 (v := (0 : Int32)) (by decide) ?_
    refine V.istore_n (pc := 39) (L' := [(3, .int (0 : Int32)), (0, .ref a0), (1, .int a1), (2, .int a2)]) C dX9_drawn_39 (by decide) rfl ?_
    refine V.aload_n (pc := 40) C dX9_drawn_40 1 rfl ?_
    replace hf := ob_some hf
    obtain ⟨q14, h15, hf⟩ := hf
    refine V.callV0v (pc := 41) C hyX9_keepsAside wd_1309 (mX9_keepsAside (r := q14.1) (g' := q14.2) K.2.1 E (kS K) h15) rfl rfl rfl (oX9_keepsAside h15) ⟨Nat.le_of_ble_eq_true rfl, Nat.le_of_ble_eq_true rfl⟩ (Nat.le_of_ble_eq_true rfl) dX9_drawn_41 ⟨Nat.zero_le _, Nat.zero_le _⟩ rfl ?_
    refine V.iconst (pc := 44) C dX9_drawn_44 (v := (0 : Int32)) (by decide) ?_
    refine V.istore (pc := 45) (L' := [(4, .int (0 : Int32)), (3, .int (0 : Int32)), (0, .ref a0), (1, .int a1), (2, .int a2)]) C dX9_drawn_45 (by decide) rfl ?_
    refine V.sub (L' := [(0, .ref a0), (1, .int a1), (2, .int a2), (3, .int (0 : Int32)), (4, .int (0 : Int32))]) [2, 3, 4, 1, 0] rfl ?_
    exact bX9_drawn_47 C  _ _ _ _ _ _ _ hf
  replace hf := ite_t c9 hf
  refine V.iconst (pc := 27) C dX9_drawn_27 (v := (-1 : Int32)) (by decide) ?_
  obtain ⟨f1, f2⟩ := fin2 hf
  clear hf
  subst f1
  subst f2
  exact V.iret (pc := 28) C rfl dX9_drawn_28
theorem dX9_count_0 : decode cX9_count 0 = .ok (.iload_n 1, 1) := by decide +kernel
theorem dX9_count_1 : decode cX9_count 1 = .ok (.tableswitch 125 0 10 #[59, 64, 69, 74, 81, 88, 95, 102, 110, 115, 120], 59) := by decide +kernel
theorem dX9_count_60 : decode cX9_count 60 = .ok (.aload_n 0, 1) := by decide +kernel
theorem dX9_count_61 : decode cX9_count 61 = .ok (.getfield 180, 3) := by decide +kernel
theorem dX9_count_64 : decode cX9_count 64 = .ok (.ireturn, 1) := by decide +kernel
theorem dX9_count_65 : decode cX9_count 65 = .ok (.aload_n 0, 1) := by decide +kernel
theorem dX9_count_66 : decode cX9_count 66 = .ok (.getfield 119, 3) := by decide +kernel
theorem dX9_count_69 : decode cX9_count 69 = .ok (.ireturn, 1) := by decide +kernel
theorem dX9_count_70 : decode cX9_count 70 = .ok (.aload_n 0, 1) := by decide +kernel
theorem dX9_count_71 : decode cX9_count 71 = .ok (.getfield 159, 3) := by decide +kernel
theorem dX9_count_74 : decode cX9_count 74 = .ok (.ireturn, 1) := by decide +kernel
theorem dX9_count_75 : decode cX9_count 75 = .ok (.aload_n 0, 1) := by decide +kernel
theorem dX9_count_76 : decode cX9_count 76 = .ok (.getfield 32, 3) := by decide +kernel
theorem dX9_count_79 : decode cX9_count 79 = .ok (.iconst 1, 1) := by decide +kernel
theorem dX9_count_80 : decode cX9_count 80 = .ok (.iaload, 1) := by decide +kernel
theorem dX9_count_81 : decode cX9_count 81 = .ok (.ireturn, 1) := by decide +kernel
theorem dX9_count_82 : decode cX9_count 82 = .ok (.aload_n 0, 1) := by decide +kernel
theorem dX9_count_83 : decode cX9_count 83 = .ok (.getfield 32, 3) := by decide +kernel
theorem dX9_count_86 : decode cX9_count 86 = .ok (.iconst 2, 1) := by decide +kernel
theorem dX9_count_87 : decode cX9_count 87 = .ok (.iaload, 1) := by decide +kernel
theorem dX9_count_88 : decode cX9_count 88 = .ok (.ireturn, 1) := by decide +kernel
theorem dX9_count_89 : decode cX9_count 89 = .ok (.aload_n 0, 1) := by decide +kernel
theorem dX9_count_90 : decode cX9_count 90 = .ok (.getfield 32, 3) := by decide +kernel
theorem dX9_count_93 : decode cX9_count 93 = .ok (.iconst 3, 1) := by decide +kernel
theorem dX9_count_94 : decode cX9_count 94 = .ok (.iaload, 1) := by decide +kernel
theorem dX9_count_95 : decode cX9_count 95 = .ok (.ireturn, 1) := by decide +kernel
theorem dX9_count_96 : decode cX9_count 96 = .ok (.aload_n 0, 1) := by decide +kernel
theorem dX9_count_97 : decode cX9_count 97 = .ok (.getfield 32, 3) := by decide +kernel
theorem dX9_count_100 : decode cX9_count 100 = .ok (.iconst 0, 1) := by decide +kernel
theorem dX9_count_101 : decode cX9_count 101 = .ok (.iaload, 1) := by decide +kernel
theorem dX9_count_102 : decode cX9_count 102 = .ok (.ireturn, 1) := by decide +kernel
theorem dX9_count_103 : decode cX9_count 103 = .ok (.aload_n 0, 1) := by decide +kernel
theorem dX9_count_104 : decode cX9_count 104 = .ok (.getfield 32, 3) := by decide +kernel
theorem dX9_count_107 : decode cX9_count 107 = .ok (.bipush 12, 2) := by decide +kernel
theorem dX9_count_109 : decode cX9_count 109 = .ok (.iaload, 1) := by decide +kernel
theorem dX9_count_110 : decode cX9_count 110 = .ok (.ireturn, 1) := by decide +kernel
theorem dX9_count_111 : decode cX9_count 111 = .ok (.aload_n 0, 1) := by decide +kernel
theorem dX9_count_112 : decode cX9_count 112 = .ok (.getfield 183, 3) := by decide +kernel
theorem dX9_count_115 : decode cX9_count 115 = .ok (.ireturn, 1) := by decide +kernel
theorem dX9_count_116 : decode cX9_count 116 = .ok (.aload_n 0, 1) := by decide +kernel
theorem dX9_count_117 : decode cX9_count 117 = .ok (.getfield 379, 3) := by decide +kernel
theorem dX9_count_120 : decode cX9_count 120 = .ok (.ireturn, 1) := by decide +kernel
theorem dX9_count_121 : decode cX9_count 121 = .ok (.aload_n 0, 1) := by decide +kernel
theorem dX9_count_122 : decode cX9_count 122 = .ok (.getfield 82, 3) := by decide +kernel
theorem dX9_count_125 : decode cX9_count 125 = .ok (.ireturn, 1) := by decide +kernel
theorem dX9_count_126 : decode cX9_count 126 = .ok (.iconst (-1), 1) := by decide +kernel
theorem dX9_count_127 : decode cX9_count 127 = .ok (.ireturn, 1) := by decide +kernel
def fX9_count (g : PH) (a0 : Nat) (a1 : Int32) : Option (Int32 × PH) :=
  okb (isO g a0 9) (if a1 = 0 then ((getI g a0 9 15).bind fun x2 =>
  (some (x2, g))) else
  (if a1 = 1 then ((getI g a0 9 7).bind fun x5 =>
  (some (x5, g))) else
  (if a1 = 2 then ((getI g a0 9 11).bind fun x8 =>
  (some (x8, g))) else
  (if a1 = 3 then ((getR g a0 9 16).bind fun p11 =>
  ((ldI g p11 0 (1 : Int32)).bind fun x13 =>
  (some (x13, g)))) else
  (if a1 = 4 then ((getR g a0 9 16).bind fun p16 =>
  ((ldI g p16 0 (2 : Int32)).bind fun x18 =>
  (some (x18, g)))) else
  (if a1 = 5 then ((getR g a0 9 16).bind fun p21 =>
  ((ldI g p21 0 (3 : Int32)).bind fun x23 =>
  (some (x23, g)))) else
  (if a1 = 6 then ((getR g a0 9 16).bind fun p26 =>
  ((ldI g p26 0 (0 : Int32)).bind fun x28 =>
  (some (x28, g)))) else
  (if a1 = 7 then ((getR g a0 9 16).bind fun p31 =>
  ((ldI g p31 0 (12 : Int32)).bind fun x33 =>
  (some (x33, g)))) else
  (if a1 = 8 then ((getI g a0 9 19).bind fun x36 =>
  (some (x36, g))) else
  (if a1 = 9 then ((getI g a0 9 39).bind fun x39 =>
  (some (x39, g))) else
  (if a1 = 10 then ((getI g a0 9 1).bind fun x42 =>
  (some (x42, g))) else
  (some ((-1 : Int32), g)))))))))))))
theorem oX9_count {g : PH} {a0 : Nat} {a1 : Int32} {q : (Int32 × PH)} (h : fX9_count g a0 a1 = some q) : isO g a0 9 = true := by unfold fX9_count at h; exact (okb_some h).1
theorem hyX9_count : hMet yX9_count RX9 cX9_count 2 (some .int) 1 := ⟨wd_1589, wd_1587, wd_1588, wd_7, rfl, by decide +kernel, by decide +kernel, by decide +kernel⟩
set_option maxHeartbeats 4000000 in
set_option maxRecDepth 100000 in
theorem mX9_count (l : Launch) (E : HE) (sz : Nat) {g g' : PH} {a0 : Nat} {a1 : Int32} {r : Int32} (hf : fX9_count g a0 a1 = some (r, g')) : hM l E yX9_count cX9_count 2 (some .int) 0 0 0 0 sz g [.ref a0, .int a1] (some (.int r)) g' := by
  refine hM.of (by decide) (Nat.le_of_ble_eq_true rfl) (fun K hl C hin hsz => ?_)
  subst hl
  subst hsz
  have C : VC K E 2 cX9_count RX9 (some .int) := C
  unfold fX9_count at hf
  replace hf := okb_some hf
  obtain ⟨ho, hf⟩ := hf
  refine V.start (L' := [(0, .ref a0), (1, .int a1)]) rfl ?_
  refine V.iload_n (pc := 0) C dX9_count_0 1 rfl ?_
  by_cases c1 : a1 = 0
  · replace hf := ite_t c1 hf
    refine V.tsIn (pc := 1) (k := 0) (t := 60) C dX9_count_1 c1 (by decide) (by decide) rfl (by decide) ?_
    refine V.aload_n (pc := 60) C dX9_count_60 0 rfl ?_
    replace hf := ob_some hf
    obtain ⟨x2, h3, hf⟩ := hf
    refine V.getI (pc := 61) C kX9 (k := 15) (by decide) wd_1065 h3 dX9_count_61 ?_
    obtain ⟨f1, f2⟩ := fin2 hf
    clear hf
    subst f1
    subst f2
    exact V.iret (pc := 64) C rfl dX9_count_64
  replace hf := ite_f c1 hf
  by_cases c4 : a1 = 1
  · replace hf := ite_t c4 hf
    refine V.tsIn (pc := 1) (k := 1) (t := 65) C dX9_count_1 c4 (by decide) (by decide) rfl (by decide) ?_
    refine V.aload_n (pc := 65) C dX9_count_65 0 rfl ?_
    replace hf := ob_some hf
    obtain ⟨x5, h6, hf⟩ := hf
    refine V.getI (pc := 66) C kX9 (k := 7) (by decide) wd_1057 h6 dX9_count_66 ?_
    obtain ⟨f1, f2⟩ := fin2 hf
    clear hf
    subst f1
    subst f2
    exact V.iret (pc := 69) C rfl dX9_count_69
  replace hf := ite_f c4 hf
  by_cases c7 : a1 = 2
  · replace hf := ite_t c7 hf
    refine V.tsIn (pc := 1) (k := 2) (t := 70) C dX9_count_1 c7 (by decide) (by decide) rfl (by decide) ?_
    refine V.aload_n (pc := 70) C dX9_count_70 0 rfl ?_
    replace hf := ob_some hf
    obtain ⟨x8, h9, hf⟩ := hf
    refine V.getI (pc := 71) C kX9 (k := 11) (by decide) wd_1061 h9 dX9_count_71 ?_
    obtain ⟨f1, f2⟩ := fin2 hf
    clear hf
    subst f1
    subst f2
    exact V.iret (pc := 74) C rfl dX9_count_74
  replace hf := ite_f c7 hf
  by_cases c10 : a1 = 3
  · replace hf := ite_t c10 hf
    refine V.tsIn (pc := 1) (k := 3) (t := 75) C dX9_count_1 c10 (by decide) (by decide) rfl (by decide) ?_
    refine V.aload_n (pc := 75) C dX9_count_75 0 rfl ?_
    replace hf := ob_some hf
    obtain ⟨p11, h12, hf⟩ := hf
    refine V.getR (pc := 76) C kX9 (k := 16) (by decide) wd_1066 h12 dX9_count_76 ?_
    refine V.iconst (pc := 79) C dX9_count_79 (v := (1 : Int32)) (by decide) ?_
    replace hf := ob_some hf
    obtain ⟨x13, h14, hf⟩ := hf
    refine V.iald (pc := 80) C h14 dX9_count_80 ?_
    obtain ⟨f1, f2⟩ := fin2 hf
    clear hf
    subst f1
    subst f2
    exact V.iret (pc := 81) C rfl dX9_count_81
  replace hf := ite_f c10 hf
  by_cases c15 : a1 = 4
  · replace hf := ite_t c15 hf
    refine V.tsIn (pc := 1) (k := 4) (t := 82) C dX9_count_1 c15 (by decide) (by decide) rfl (by decide) ?_
    refine V.aload_n (pc := 82) C dX9_count_82 0 rfl ?_
    replace hf := ob_some hf
    obtain ⟨p16, h17, hf⟩ := hf
    refine V.getR (pc := 83) C kX9 (k := 16) (by decide) wd_1066 h17 dX9_count_83 ?_
    refine V.iconst (pc := 86) C dX9_count_86 (v := (2 : Int32)) (by decide) ?_
    replace hf := ob_some hf
    obtain ⟨x18, h19, hf⟩ := hf
    refine V.iald (pc := 87) C h19 dX9_count_87 ?_
    obtain ⟨f1, f2⟩ := fin2 hf
    clear hf
    subst f1
    subst f2
    exact V.iret (pc := 88) C rfl dX9_count_88
  replace hf := ite_f c15 hf
  by_cases c20 : a1 = 5
  · replace hf := ite_t c20 hf
    refine V.tsIn (pc := 1) (k := 5) (t := 89) C dX9_count_1 c20 (by decide) (by decide) rfl (by decide) ?_
    refine V.aload_n (pc := 89) C dX9_count_89 0 rfl ?_
    replace hf := ob_some hf
    obtain ⟨p21, h22, hf⟩ := hf
    refine V.getR (pc := 90) C kX9 (k := 16) (by decide) wd_1066 h22 dX9_count_90 ?_
    refine V.iconst (pc := 93) C dX9_count_93 (v := (3 : Int32)) (by decide) ?_
    replace hf := ob_some hf
    obtain ⟨x23, h24, hf⟩ := hf
    refine V.iald (pc := 94) C h24 dX9_count_94 ?_
    obtain ⟨f1, f2⟩ := fin2 hf
    clear hf
    subst f1
    subst f2
    exact V.iret (pc := 95) C rfl dX9_count_95
  replace hf := ite_f c20 hf
  by_cases c25 : a1 = 6
  · replace hf := ite_t c25 hf
    refine V.tsIn (pc := 1) (k := 6) (t := 96) C dX9_count_1 c25 (by decide) (by decide) rfl (by decide) ?_
    refine V.aload_n (pc := 96) C dX9_count_96 0 rfl ?_
    replace hf := ob_some hf
    obtain ⟨p26, h27, hf⟩ := hf
    refine V.getR (pc := 97) C kX9 (k := 16) (by decide) wd_1066 h27 dX9_count_97 ?_
    refine V.iconst (pc := 100) C dX9_count_100 (v := (0 : Int32)) (by decide) ?_
    replace hf := ob_some hf
    obtain ⟨x28, h29, hf⟩ := hf
    refine V.iald (pc := 101) C h29 dX9_count_101 ?_
    obtain ⟨f1, f2⟩ := fin2 hf
    clear hf
    subst f1
    subst f2
    exact V.iret (pc := 102) C rfl dX9_count_102
  replace hf := ite_f c25 hf
  by_cases c30 : a1 = 7
  · replace hf := ite_t c30 hf
    refine V.tsIn (pc := 1) (k := 7) (t := 103) C dX9_count_1 c30 (by decide) (by decide) rfl (by decide) ?_
    refine V.aload_n (pc := 103) C dX9_count_103 0 rfl ?_
    replace hf := ob_some hf
    obtain ⟨p31, h32, hf⟩ := hf
    refine V.getR (pc := 104) C kX9 (k := 16) (by decide) wd_1066 h32 dX9_count_104 ?_
    refine V.bipush (pc := 107) C dX9_count_107 (v := (12 : Int32)) (by decide) ?_
    replace hf := ob_some hf
    obtain ⟨x33, h34, hf⟩ := hf
    refine V.iald (pc := 109) C h34 dX9_count_109 ?_
    obtain ⟨f1, f2⟩ := fin2 hf
    clear hf
    subst f1
    subst f2
    exact V.iret (pc := 110) C rfl dX9_count_110
  replace hf := ite_f c30 hf
  by_cases c35 : a1 = 8
  · replace hf := ite_t c35 hf
    refine V.tsIn (pc := 1) (k := 8) (t := 111) C dX9_count_1 c35 (by decide) (by decide) rfl (by decide) ?_
    refine V.aload_n (pc := 111) C dX9_count_111 0 rfl ?_
    replace hf := ob_some hf
    obtain ⟨x36, h37, hf⟩ := hf
    refine V.getI (pc := 112) C kX9 (k := 19) (by decide) wd_1069 h37 dX9_count_112 ?_
    obtain ⟨f1, f2⟩ := fin2 hf
    clear hf
    subst f1
    subst f2
    exact V.iret (pc := 115) C rfl dX9_count_115
  replace hf := ite_f c35 hf
  by_cases c38 : a1 = 9
  · replace hf := ite_t c38 hf
    refine V.tsIn (pc := 1) (k := 9) (t := 116) C dX9_count_1 c38 (by decide) (by decide) rfl (by decide) ?_
    refine V.aload_n (pc := 116) C dX9_count_116 0 rfl ?_
    replace hf := ob_some hf
    obtain ⟨x39, h40, hf⟩ := hf
    refine V.getI (pc := 117) C kX9 (k := 39) (by decide) wd_1089 h40 dX9_count_117 ?_
    obtain ⟨f1, f2⟩ := fin2 hf
    clear hf
    subst f1
    subst f2
    exact V.iret (pc := 120) C rfl dX9_count_120
  replace hf := ite_f c38 hf
  by_cases c41 : a1 = 10
  · replace hf := ite_t c41 hf
    refine V.tsIn (pc := 1) (k := 10) (t := 121) C dX9_count_1 c41 (by decide) (by decide) rfl (by decide) ?_
    refine V.aload_n (pc := 121) C dX9_count_121 0 rfl ?_
    replace hf := ob_some hf
    obtain ⟨x42, h43, hf⟩ := hf
    refine V.getI (pc := 122) C kX9 (k := 1) (by decide) wd_1051 h43 dX9_count_122 ?_
    obtain ⟨f1, f2⟩ := fin2 hf
    clear hf
    subst f1
    subst f2
    exact V.iret (pc := 125) C rfl dX9_count_125
  replace hf := ite_f c41 hf
  have c1 := lv_neT (a := 0) c1 (by decide)
  have c4 := lv_neT (a := 1) c4 (by decide)
  have c7 := lv_neT (a := 2) c7 (by decide)
  have c10 := lv_neT (a := 3) c10 (by decide)
  have c15 := lv_neT (a := 4) c15 (by decide)
  have c20 := lv_neT (a := 5) c20 (by decide)
  have c25 := lv_neT (a := 6) c25 (by decide)
  have c30 := lv_neT (a := 7) c30 (by decide)
  have c35 := lv_neT (a := 8) c35 (by decide)
  have c38 := lv_neT (a := 9) c38 (by decide)
  have c41 := lv_neT (a := 10) c41 (by decide)
  refine V.tsOut (pc := 1) (t := 126) C dX9_count_1 (by omega) (by decide) ?_
  refine V.iconst (pc := 126) C dX9_count_126 (v := (-1 : Int32)) (by decide) ?_
  obtain ⟨f1, f2⟩ := fin2 hf
  clear hf
  subst f1
  subst f2
  exact V.iret (pc := 127) C rfl dX9_count_127
