theorem dX9_onTwo_0 : decode cX9_onTwo 0 = .ok (.aload_n 0, 1) := by decide +kernel
theorem dX9_onTwo_1 : decode cX9_onTwo 1 = .ok (.iload_n 1, 1) := by decide +kernel
theorem dX9_onTwo_2 : decode cX9_onTwo 2 = .ok (.invokevirtual 263, 3) := by decide +kernel
theorem dX9_onTwo_5 : decode cX9_onTwo 5 = .ok (.ifCond .eq 11, 3) := by decide +kernel
theorem dX9_onTwo_8 : decode cX9_onTwo 8 = .ok (.aload_n 0, 1) := by decide +kernel
theorem dX9_onTwo_9 : decode cX9_onTwo 9 = .ok (.iload_n 2, 1) := by decide +kernel
theorem dX9_onTwo_10 : decode cX9_onTwo 10 = .ok (.invokevirtual 255, 3) := by decide +kernel
theorem dX9_onTwo_13 : decode cX9_onTwo 13 = .ok (.ifCond .ne 5, 3) := by decide +kernel
theorem dX9_onTwo_16 : decode cX9_onTwo 16 = .ok (.iconst (-1), 1) := by decide +kernel
theorem dX9_onTwo_17 : decode cX9_onTwo 17 = .ok (.ireturn, 1) := by decide +kernel
theorem dX9_onTwo_18 : decode cX9_onTwo 18 = .ok (.aload_n 0, 1) := by decide +kernel
theorem dX9_onTwo_19 : decode cX9_onTwo 19 = .ok (.invokevirtual 285, 3) := by decide +kernel
theorem dX9_onTwo_22 : decode cX9_onTwo 22 = .ok (.istore_n 3, 1) := by decide +kernel
theorem dX9_onTwo_23 : decode cX9_onTwo 23 = .ok (.iconst 0, 1) := by decide +kernel
theorem dX9_onTwo_24 : decode cX9_onTwo 24 = .ok (.istore 4, 2) := by decide +kernel
theorem dX9_onTwo_26 : decode cX9_onTwo 26 = .ok (.iconst 0, 1) := by decide +kernel
theorem dX9_onTwo_27 : decode cX9_onTwo 27 = .ok (.istore 5, 2) := by decide +kernel
theorem dX9_onTwo_29 : decode cX9_onTwo 29 = .ok (.iload 5, 2) := by decide +kernel
theorem dX9_onTwo_31 : decode cX9_onTwo 31 = .ok (.iconst 2, 1) := by decide +kernel
theorem dX9_onTwo_32 : decode cX9_onTwo 32 = .ok (.if_icmp .ge 70, 3) := by decide +kernel
theorem dX9_onTwo_35 : decode cX9_onTwo 35 = .ok (.aload_n 0, 1) := by decide +kernel
theorem dX9_onTwo_36 : decode cX9_onTwo 36 = .ok (.aload_n 0, 1) := by decide +kernel
theorem dX9_onTwo_37 : decode cX9_onTwo 37 = .ok (.iload_n 2, 1) := by decide +kernel
theorem dX9_onTwo_38 : decode cX9_onTwo 38 = .ok (.invokevirtual 237, 3) := by decide +kernel
theorem dX9_onTwo_41 : decode cX9_onTwo 41 = .ok (.ifCond .eq 10, 3) := by decide +kernel
theorem dX9_onTwo_44 : decode cX9_onTwo 44 = .ok (.iconst 1, 1) := by decide +kernel
theorem dX9_onTwo_45 : decode cX9_onTwo 45 = .ok (.iload 5, 2) := by decide +kernel
theorem dX9_onTwo_47 : decode cX9_onTwo 47 = .ok (.isub, 1) := by decide +kernel
theorem dX9_onTwo_48 : decode cX9_onTwo 48 = .ok (.goto 5, 3) := by decide +kernel
theorem dX9_onTwo_51 : decode cX9_onTwo 51 = .ok (.iload 5, 2) := by decide +kernel
theorem dX9_onTwo_53 : decode cX9_onTwo 53 = .ok (.putfield 243, 3) := by decide +kernel
theorem dX9_onTwo_56 : decode cX9_onTwo 56 = .ok (.aload_n 0, 1) := by decide +kernel
theorem dX9_onTwo_57 : decode cX9_onTwo 57 = .ok (.aload_n 0, 1) := by decide +kernel
theorem dX9_onTwo_58 : decode cX9_onTwo 58 = .ok (.iload_n 2, 1) := by decide +kernel
theorem dX9_onTwo_59 : decode cX9_onTwo 59 = .ok (.invokevirtual 237, 3) := by decide +kernel
theorem dX9_onTwo_62 : decode cX9_onTwo 62 = .ok (.ifCond .eq 8, 3) := by decide +kernel
theorem dX9_onTwo_65 : decode cX9_onTwo 65 = .ok (.iload 5, 2) := by decide +kernel
theorem dX9_onTwo_67 : decode cX9_onTwo 67 = .ok (.goto 4, 3) := by decide +kernel
theorem dX9_onTwo_70 : decode cX9_onTwo 70 = .ok (.iconst (-1), 1) := by decide +kernel
theorem dX9_onTwo_71 : decode cX9_onTwo 71 = .ok (.putfield 240, 3) := by decide +kernel
theorem dX9_onTwo_74 : decode cX9_onTwo 74 = .ok (.iload 4, 2) := by decide +kernel
theorem dX9_onTwo_76 : decode cX9_onTwo 76 = .ok (.aload_n 0, 1) := by decide +kernel
theorem dX9_onTwo_77 : decode cX9_onTwo 77 = .ok (.iload_n 1, 1) := by decide +kernel
theorem dX9_onTwo_78 : decode cX9_onTwo 78 = .ok (.iload_n 2, 1) := by decide +kernel
theorem dX9_onTwo_79 : decode cX9_onTwo 79 = .ok (.invokevirtual 279, 3) := by decide +kernel
theorem dX9_onTwo_82 : decode cX9_onTwo 82 = .ok (.ifCond .ge 10, 3) := by decide +kernel
theorem dX9_onTwo_85 : decode cX9_onTwo 85 = .ok (.iconst 1, 1) := by decide +kernel
theorem dX9_onTwo_86 : decode cX9_onTwo 86 = .ok (.iload 5, 2) := by decide +kernel
theorem dX9_onTwo_88 : decode cX9_onTwo 88 = .ok (.ishl, 1) := by decide +kernel
theorem dX9_onTwo_89 : decode cX9_onTwo 89 = .ok (.goto 4, 3) := by decide +kernel
theorem dX9_onTwo_92 : decode cX9_onTwo 92 = .ok (.iconst 0, 1) := by decide +kernel
theorem dX9_onTwo_93 : decode cX9_onTwo 93 = .ok (.ior, 1) := by decide +kernel
theorem dX9_onTwo_94 : decode cX9_onTwo 94 = .ok (.istore 4, 2) := by decide +kernel
theorem dX9_onTwo_96 : decode cX9_onTwo 96 = .ok (.iinc 5 1, 3) := by decide +kernel
theorem dX9_onTwo_99 : decode cX9_onTwo 99 = .ok (.goto (-70), 3) := by decide +kernel
theorem dX9_onTwo_102 : decode cX9_onTwo 102 = .ok (.aload_n 0, 1) := by decide +kernel
theorem dX9_onTwo_103 : decode cX9_onTwo 103 = .ok (.iload_n 3, 1) := by decide +kernel
theorem dX9_onTwo_104 : decode cX9_onTwo 104 = .ok (.putfield 180, 3) := by decide +kernel
theorem dX9_onTwo_107 : decode cX9_onTwo 107 = .ok (.aload_n 0, 1) := by decide +kernel
theorem dX9_onTwo_108 : decode cX9_onTwo 108 = .ok (.invokevirtual 282, 3) := by decide +kernel
theorem dX9_onTwo_111 : decode cX9_onTwo 111 = .ok (.iload 4, 2) := by decide +kernel
theorem dX9_onTwo_113 : decode cX9_onTwo 113 = .ok (.ireturn, 1) := by decide +kernel
def fX9_onTwo_93 (k29 : PH → Nat → Int32 → Int32 → Int32 → Int32 → Int32 → Option (Int32 × PH)) (g : PH) (v0 : Nat) (v1 : Int32) (v2 : Int32) (v3 : Int32) (v5 : Int32) (s0 : Int32) (s1 : Int32) : Option (Int32 × PH) :=
  k29 g v0 v1 v2 v3 (s1 ||| s0) (v5 + (1 : Int32))
set_option maxHeartbeats 4000000 in
set_option maxRecDepth 100000 in
theorem bX9_onTwo_93 {K : HK} {E : HE} {r : Int32} {g' : PH} {k29 : PH → Nat → Int32 → Int32 → Int32 → Int32 → Int32 → Option (Int32 × PH)} (C : VC K E 6 cX9_onTwo RX9 (some .int)) (hk29 : ∀ (g : PH) (v0 : Nat) (v1 : Int32) (v2 : Int32) (v3 : Int32) (v4 : Int32) (v5 : Int32), k29 g v0 v1 v2 v3 v4 v5 = some (r, g') → V K E (hRm 9 216 0 0) 6 (hZ K E (some (.int r)) g' 0 0) 0 0 (kS K) g 29 [(0, .ref v0), (1, .int v1), (2, .int v2), (3, .int v3), (4, .int v4), (5, .int v5)] []) {g : PH} {v0 : Nat} {v1 : Int32} {v2 : Int32} {v3 : Int32} {v5 : Int32} {s0 : Int32} {s1 : Int32} (hf : fX9_onTwo_93 k29 g v0 v1 v2 v3 v5 s0 s1 = some (r, g')) : V K E (hRm 9 216 0 0) 6 (hZ K E (some (.int r)) g' 0 0) 0 0 (kS K) g 93 [(0, .ref v0), (1, .int v1), (2, .int v2), (3, .int v3), (5, .int v5)] [.int s0, .int s1] := by
  unfold fX9_onTwo_93 at hf
  refine V.ior (pc := 93) C dX9_onTwo_93 ?_
  refine V.istore (pc := 94) (L' := [(4, .int (s1 ||| s0)), (0, .ref v0), (1, .int v1), (2, .int v2), (3, .int v3), (5, .int v5)]) C dX9_onTwo_94 (by decide) rfl ?_
  refine V.iinc (pc := 96) (v := (v5 + (1 : Int32))) (L' := [(5, .int (v5 + (1 : Int32))), (4, .int (s1 ||| s0)), (0, .ref v0), (1, .int v1), (2, .int v2), (3, .int v3)]) C dX9_onTwo_96 5 rfl rfl (by decide) rfl ?_
  refine V.goto (pc := 99) (t := 29) C dX9_onTwo_99 (by decide) ?_
  refine V.sub (L' := [(0, .ref v0), (1, .int v1), (2, .int v2), (3, .int v3), (4, .int (s1 ||| s0)), (5, .int (v5 + (1 : Int32)))]) [2, 3, 4, 5, 1, 0] rfl ?_
  exact hk29 _ _ _ _ _ _ _ hf
def fX9_onTwo_71 (k29 : PH → Nat → Int32 → Int32 → Int32 → Int32 → Int32 → Option (Int32 × PH)) (g : PH) (v0 : Nat) (v1 : Int32) (v2 : Int32) (v3 : Int32) (v4 : Int32) (v5 : Int32) (s0 : Int32) (s1 : Nat) : Option (Int32 × PH) :=
  (putV g s1 9 23 (.int s0)).bind fun g1 =>
  ((fX9_escapeOf g1 v0 v1 v2).bind fun q3 =>
  (if 0 ≤ q3.1 then (fX9_onTwo_93 (k29) q3.2 v0 v1 v2 v3 v5 (0 : Int32) v4) else
  (fX9_onTwo_93 (k29) q3.2 v0 v1 v2 v3 v5 ((1 : Int32) <<< (v5 &&& 31)) v4)))
set_option maxHeartbeats 4000000 in
set_option maxRecDepth 100000 in
theorem bX9_onTwo_71 {K : HK} {E : HE} {r : Int32} {g' : PH} {k29 : PH → Nat → Int32 → Int32 → Int32 → Int32 → Int32 → Option (Int32 × PH)} (C : VC K E 6 cX9_onTwo RX9 (some .int)) (hk29 : ∀ (g : PH) (v0 : Nat) (v1 : Int32) (v2 : Int32) (v3 : Int32) (v4 : Int32) (v5 : Int32), k29 g v0 v1 v2 v3 v4 v5 = some (r, g') → V K E (hRm 9 216 0 0) 6 (hZ K E (some (.int r)) g' 0 0) 0 0 (kS K) g 29 [(0, .ref v0), (1, .int v1), (2, .int v2), (3, .int v3), (4, .int v4), (5, .int v5)] []) {g : PH} {v0 : Nat} {v1 : Int32} {v2 : Int32} {v3 : Int32} {v4 : Int32} {v5 : Int32} {s0 : Int32} {s1 : Nat} (hf : fX9_onTwo_71 k29 g v0 v1 v2 v3 v4 v5 s0 s1 = some (r, g')) : V K E (hRm 9 216 0 0) 6 (hZ K E (some (.int r)) g' 0 0) 0 0 (kS K) g 71 [(0, .ref v0), (1, .int v1), (2, .int v2), (3, .int v3), (4, .int v4), (5, .int v5)] [.int s0, .ref s1] := by
  unfold fX9_onTwo_71 at hf
  replace hf := ob_some hf
  obtain ⟨g1, h2, hf⟩ := hf
  refine V.putX (pc := 71) C kX9 (k := 23) (by decide) wd_1073 rfl rfl rfl h2 dX9_onTwo_71 ?_
  refine V.iload (pc := 74) C dX9_onTwo_74 4 rfl ?_
  refine V.aload_n (pc := 76) C dX9_onTwo_76 0 rfl ?_
  refine V.iload_n (pc := 77) C dX9_onTwo_77 1 rfl ?_
  refine V.iload_n (pc := 78) C dX9_onTwo_78 2 rfl ?_
  replace hf := ob_some hf
  obtain ⟨q3, h4, hf⟩ := hf
  refine V.callV0i (pc := 79) C hyX9_escapeOf wd_1321 (mX9_escapeOf (r := q3.1) (g' := q3.2) K.2.1 E (kS K) h4) rfl rfl rfl (oX9_escapeOf h4) ⟨Nat.le_of_ble_eq_true rfl, Nat.le_of_ble_eq_true rfl⟩ (Nat.le_of_ble_eq_true rfl) dX9_onTwo_79 ⟨Nat.zero_le _, Nat.zero_le _⟩ rfl ?_
  refine V.if_ge (pc := 82) (t := 92) C dX9_onTwo_82 (by decide) (fun c5 => ?_) (fun c5 => ?_)
  · replace hf := ite_t c5 hf
    refine V.iconst (pc := 92) C dX9_onTwo_92 (v := (0 : Int32)) (by decide) ?_
    refine V.sub (L' := [(0, .ref v0), (1, .int v1), (2, .int v2), (3, .int v3), (5, .int v5)]) [0, 1, 2, 3, 5] rfl ?_
    exact bX9_onTwo_93 C hk29 hf
  replace hf := ite_f c5 hf
  refine V.iconst (pc := 85) C dX9_onTwo_85 (v := (1 : Int32)) (by decide) ?_
  refine V.iload (pc := 86) C dX9_onTwo_86 5 rfl ?_
  refine V.ishl (pc := 88) C dX9_onTwo_88 ?_
  refine V.goto (pc := 89) (t := 93) C dX9_onTwo_89 (by decide) ?_
  refine V.sub (L' := [(0, .ref v0), (1, .int v1), (2, .int v2), (3, .int v3), (5, .int v5)]) [0, 1, 2, 3, 5] rfl ?_
  exact bX9_onTwo_93 C hk29 hf
def fX9_onTwo_53 (k29 : PH → Nat → Int32 → Int32 → Int32 → Int32 → Int32 → Option (Int32 × PH)) (g : PH) (v0 : Nat) (v1 : Int32) (v2 : Int32) (v3 : Int32) (v4 : Int32) (v5 : Int32) (s0 : Int32) (s1 : Nat) : Option (Int32 × PH) :=
  (putV g s1 9 24 (.int s0)).bind fun g1 =>
  ((fX9_isPair g1 v0 v2).bind fun q3 =>
  (if q3.1 = 0 then (fX9_onTwo_71 (k29) q3.2 v0 v1 v2 v3 v4 v5 (-1 : Int32) v0) else
  (fX9_onTwo_71 (k29) q3.2 v0 v1 v2 v3 v4 v5 v5 v0)))
set_option maxHeartbeats 4000000 in
set_option maxRecDepth 100000 in
theorem bX9_onTwo_53 {K : HK} {E : HE} {r : Int32} {g' : PH} {k29 : PH → Nat → Int32 → Int32 → Int32 → Int32 → Int32 → Option (Int32 × PH)} (C : VC K E 6 cX9_onTwo RX9 (some .int)) (hk29 : ∀ (g : PH) (v0 : Nat) (v1 : Int32) (v2 : Int32) (v3 : Int32) (v4 : Int32) (v5 : Int32), k29 g v0 v1 v2 v3 v4 v5 = some (r, g') → V K E (hRm 9 216 0 0) 6 (hZ K E (some (.int r)) g' 0 0) 0 0 (kS K) g 29 [(0, .ref v0), (1, .int v1), (2, .int v2), (3, .int v3), (4, .int v4), (5, .int v5)] []) {g : PH} {v0 : Nat} {v1 : Int32} {v2 : Int32} {v3 : Int32} {v4 : Int32} {v5 : Int32} {s0 : Int32} {s1 : Nat} (hf : fX9_onTwo_53 k29 g v0 v1 v2 v3 v4 v5 s0 s1 = some (r, g')) : V K E (hRm 9 216 0 0) 6 (hZ K E (some (.int r)) g' 0 0) 0 0 (kS K) g 53 [(0, .ref v0), (1, .int v1), (2, .int v2), (3, .int v3), (4, .int v4), (5, .int v5)] [.int s0, .ref s1] := by
  unfold fX9_onTwo_53 at hf
  replace hf := ob_some hf
  obtain ⟨g1, h2, hf⟩ := hf
  refine V.putX (pc := 53) C kX9 (k := 24) (by decide) wd_1074 rfl rfl rfl h2 dX9_onTwo_53 ?_
  refine V.aload_n (pc := 56) C dX9_onTwo_56 0 rfl ?_
  refine V.aload_n (pc := 57) C dX9_onTwo_57 0 rfl ?_
  refine V.iload_n (pc := 58) C dX9_onTwo_58 2 rfl ?_
  replace hf := ob_some hf
  obtain ⟨q3, h4, hf⟩ := hf
  refine V.callV0i (pc := 59) C hyX9_isPair wd_1275 (mX9_isPair (r := q3.1) (g' := q3.2) K.2.1 E (kS K) h4) rfl rfl rfl (oX9_isPair h4) ⟨Nat.le_of_ble_eq_true rfl, Nat.le_of_ble_eq_true rfl⟩ (Nat.le_of_ble_eq_true rfl) dX9_onTwo_59 ⟨Nat.zero_le _, Nat.zero_le _⟩ rfl ?_
  refine V.if_eq (pc := 62) (t := 70) C dX9_onTwo_62 (by decide) (fun c5 => ?_) (fun c5 => ?_)
  · replace hf := ite_t c5 hf
    refine V.iconst (pc := 70) C dX9_onTwo_70 (v := (-1 : Int32)) (by decide) ?_
    refine V.sub (L' := [(0, .ref v0), (1, .int v1), (2, .int v2), (3, .int v3), (4, .int v4), (5, .int v5)]) [0, 1, 2, 3, 4, 5] rfl ?_
    exact bX9_onTwo_71 C hk29 hf
  replace hf := ite_f c5 hf
  refine V.iload (pc := 65) C dX9_onTwo_65 5 rfl ?_
  refine V.goto (pc := 67) (t := 71) C dX9_onTwo_67 (by decide) ?_
  refine V.sub (L' := [(0, .ref v0), (1, .int v1), (2, .int v2), (3, .int v3), (4, .int v4), (5, .int v5)]) [0, 1, 2, 3, 4, 5] rfl ?_
  exact bX9_onTwo_71 C hk29 hf
def fX9_onTwo_29  : Nat → PH → Nat → Int32 → Int32 → Int32 → Int32 → Int32 → Option (Int32 × PH)
  | 0, _, _, _, _, _, _, _ => none
  | n + 1, g, v0, v1, v2, v3, v4, v5 =>
  if (2 : Int32) ≤ v5 then ((putV g v0 9 15 (.int v3)).bind fun g2 =>
  ((fX9_laysBack g2 v0).bind fun q4 =>
  (some (v4, q4.2)))) else
  ((fX9_isPair g v0 v2).bind fun q6 =>
  (if q6.1 = 0 then (fX9_onTwo_53 (fX9_onTwo_29 n) q6.2 v0 v1 v2 v3 v4 v5 v5 v0) else
  (fX9_onTwo_53 (fX9_onTwo_29 n) q6.2 v0 v1 v2 v3 v4 v5 ((1 : Int32) - v5) v0)))
set_option maxHeartbeats 4000000 in
set_option maxRecDepth 100000 in
theorem bX9_onTwo_29 {K : HK} {E : HE} {r : Int32} {g' : PH}  (C : VC K E 6 cX9_onTwo RX9 (some .int))  : ∀ (n : Nat) (g : PH) (v0 : Nat) (v1 : Int32) (v2 : Int32) (v3 : Int32) (v4 : Int32) (v5 : Int32), fX9_onTwo_29  n g v0 v1 v2 v3 v4 v5 = some (r, g') → V K E (hRm 9 216 0 0) 6 (hZ K E (some (.int r)) g' 0 0) 0 0 (kS K) g 29 [(0, .ref v0), (1, .int v1), (2, .int v2), (3, .int v3), (4, .int v4), (5, .int v5)] [] := by
  intro n
  induction n with
  | zero =>
    intro g v0 v1 v2 v3 v4 v5 hf
    rw [fX9_onTwo_29] at hf
    cases hf
  | succ n ih =>
    intro g v0 v1 v2 v3 v4 v5 hf
    rw [fX9_onTwo_29] at hf
    refine V.iload (pc := 29) C dX9_onTwo_29 5 rfl ?_
    refine V.iconst (pc := 31) C dX9_onTwo_31 (v := (2 : Int32)) (by decide) ?_
    refine V.icmp_ge (pc := 32) (t := 102) C dX9_onTwo_32 (by decide) (fun c1 => ?_) (fun c1 => ?_)
    · replace hf := ite_t c1 hf
      refine V.aload_n (pc := 102) C dX9_onTwo_102 0 rfl ?_
      refine V.iload_n (pc := 103) C dX9_onTwo_103 3 rfl ?_
      replace hf := ob_some hf
      obtain ⟨g2, h3, hf⟩ := hf
      refine V.putX (pc := 104) C kX9 (k := 15) (by decide) wd_1065 rfl rfl rfl h3 dX9_onTwo_104 ?_
      refine V.aload_n (pc := 107) C dX9_onTwo_107 0 rfl ?_
      replace hf := ob_some hf
      obtain ⟨q4, h5, hf⟩ := hf
      refine V.callV0v (pc := 108) C hyX9_laysBack wd_1388 (mX9_laysBack (r := q4.1) (g' := q4.2) K.2.1 E (kS K) h5) rfl rfl rfl (oX9_laysBack h5) ⟨Nat.le_of_ble_eq_true rfl, Nat.le_of_ble_eq_true rfl⟩ (Nat.le_of_ble_eq_true rfl) dX9_onTwo_108 ⟨Nat.zero_le _, Nat.zero_le _⟩ rfl ?_
      refine V.iload (pc := 111) C dX9_onTwo_111 4 rfl ?_
      obtain ⟨f1, f2⟩ := fin2 hf
      clear hf
      subst f1
      subst f2
      exact V.iret (pc := 113) C rfl dX9_onTwo_113
    replace hf := ite_f c1 hf
    refine V.aload_n (pc := 35) C dX9_onTwo_35 0 rfl ?_
    refine V.aload_n (pc := 36) C dX9_onTwo_36 0 rfl ?_
    refine V.iload_n (pc := 37) C dX9_onTwo_37 2 rfl ?_
    replace hf := ob_some hf
    obtain ⟨q6, h7, hf⟩ := hf
    refine V.callV0i (pc := 38) C hyX9_isPair wd_1275 (mX9_isPair (r := q6.1) (g' := q6.2) K.2.1 E (kS K) h7) rfl rfl rfl (oX9_isPair h7) ⟨Nat.le_of_ble_eq_true rfl, Nat.le_of_ble_eq_true rfl⟩ (Nat.le_of_ble_eq_true rfl) dX9_onTwo_38 ⟨Nat.zero_le _, Nat.zero_le _⟩ rfl ?_
    refine V.if_eq (pc := 41) (t := 51) C dX9_onTwo_41 (by decide) (fun c8 => ?_) (fun c8 => ?_)
    · replace hf := ite_t c8 hf
      refine V.iload (pc := 51) C dX9_onTwo_51 5 rfl ?_
      refine V.sub (L' := [(0, .ref v0), (1, .int v1), (2, .int v2), (3, .int v3), (4, .int v4), (5, .int v5)]) [0, 1, 2, 3, 4, 5] rfl ?_
      exact bX9_onTwo_53 C ih hf
    replace hf := ite_f c8 hf
    refine V.iconst (pc := 44) C dX9_onTwo_44 (v := (1 : Int32)) (by decide) ?_
    refine V.iload (pc := 45) C dX9_onTwo_45 5 rfl ?_
    refine V.isub (pc := 47) C dX9_onTwo_47 ?_
    refine V.goto (pc := 48) (t := 53) C dX9_onTwo_48 (by decide) ?_
    refine V.sub (L' := [(0, .ref v0), (1, .int v1), (2, .int v2), (3, .int v3), (4, .int v4), (5, .int v5)]) [0, 1, 2, 3, 4, 5] rfl ?_
    exact bX9_onTwo_53 C ih hf
def fX9_onTwo (g : PH) (a0 : Nat) (a1 : Int32) (a2 : Int32) : Option (Int32 × PH) :=
  okb (isO g a0 9) ((fX9_isMarch g a0 a1).bind fun q1 =>
  (if q1.1 = 0 then (some ((-1 : Int32), q1.2)) else
  ((fX9_isKind q1.2 a0 a2).bind fun q4 =>
  (if q4.1 = 0 then (some ((-1 : Int32), q4.2)) else
  ((fX9_beginsTwo q4.2 a0).bind fun q7 =>
  (fX9_onTwo_29 FUEL q7.2 a0 a1 a2 q7.1 (0 : Int32) (0 : Int32)))))))
theorem oX9_onTwo {g : PH} {a0 : Nat} {a1 : Int32} {a2 : Int32} {q : (Int32 × PH)} (h : fX9_onTwo g a0 a1 a2 = some q) : isO g a0 9 = true := by unfold fX9_onTwo at h; exact (okb_some h).1
theorem hyX9_onTwo : hMet yX9_onTwo RX9 cX9_onTwo 6 (some .int) 2 := ⟨wd_1399, wd_1397, wd_1398, wd_7, rfl, by decide +kernel, by decide +kernel, by decide +kernel⟩
set_option maxHeartbeats 4000000 in
set_option maxRecDepth 100000 in
theorem mX9_onTwo (l : Launch) (E : HE) (sz : Nat) {g g' : PH} {a0 : Nat} {a1 : Int32} {a2 : Int32} {r : Int32} (hf : fX9_onTwo g a0 a1 a2 = some (r, g')) : hM l E yX9_onTwo cX9_onTwo 6 (some .int) 9 216 0 0 sz g [.ref a0, .int a1, .int a2] (some (.int r)) g' := by
  refine hM.of (by decide) (Nat.le_of_ble_eq_true rfl) (fun K hl C hin hsz => ?_)
  subst hl
  subst hsz
  have C : VC K E 6 cX9_onTwo RX9 (some .int) := C
  unfold fX9_onTwo at hf
  replace hf := okb_some hf
  obtain ⟨ho, hf⟩ := hf
  refine V.start (L' := [(0, .ref a0), (1, .int a1), (2, .int a2)]) rfl ?_
  refine V.aload_n (pc := 0) C dX9_onTwo_0 0 rfl ?_
  refine V.iload_n (pc := 1) C dX9_onTwo_1 1 rfl ?_
  replace hf := ob_some hf
  obtain ⟨q1, h2, hf⟩ := hf
  refine V.callV0i (pc := 2) C hyX9_isMarch wd_1287 (mX9_isMarch (r := q1.1) (g' := q1.2) K.2.1 E (kS K) h2) rfl rfl rfl (oX9_isMarch h2) ⟨Nat.le_of_ble_eq_true rfl, Nat.le_of_ble_eq_true rfl⟩ (Nat.le_of_ble_eq_true rfl) dX9_onTwo_2 ⟨Nat.zero_le _, Nat.zero_le _⟩ rfl ?_
  refine V.if_eq (pc := 5) (t := 16) C dX9_onTwo_5 (by decide) (fun c3 => ?_) (fun c3 => ?_)
  · replace hf := ite_t c3 hf
    refine V.iconst (pc := 16) C dX9_onTwo_16 (v := (-1 : Int32)) (by decide) ?_
    obtain ⟨f1, f2⟩ := fin2 hf
    clear hf
    subst f1
    subst f2
    exact V.iret (pc := 17) C rfl dX9_onTwo_17
  replace hf := ite_f c3 hf
  refine V.aload_n (pc := 8) C dX9_onTwo_8 0 rfl ?_
  refine V.iload_n (pc := 9) C dX9_onTwo_9 2 rfl ?_
  replace hf := ob_some hf
  obtain ⟨q4, h5, hf⟩ := hf
  refine V.callV0i (pc := 10) C hyX9_isKind wd_1270 (mX9_isKind (r := q4.1) (g' := q4.2) K.2.1 E (kS K) h5) rfl rfl rfl (oX9_isKind h5) ⟨Nat.le_of_ble_eq_true rfl, Nat.le_of_ble_eq_true rfl⟩ (Nat.le_of_ble_eq_true rfl) dX9_onTwo_10 ⟨Nat.zero_le _, Nat.zero_le _⟩ rfl ?_
  refine V.if_ne (pc := 13) (t := 18) C dX9_onTwo_13 (by decide) (fun c6 => ?_) (fun c6 => ?_)
  · replace hf := ite_f c6 hf
    refine V.aload_n (pc := 18) C dX9_onTwo_18 0 rfl ?_
    replace hf := ob_some hf
    obtain ⟨q7, h8, hf⟩ := hf
    refine V.callV0i (pc := 19) C hyX9_beginsTwo wd_1400 (mX9_beginsTwo (r := q7.1) (g' := q7.2) K.2.1 E (kS K) h8) rfl rfl rfl (oX9_beginsTwo h8) ⟨Nat.le_of_ble_eq_true rfl, Nat.le_of_ble_eq_true rfl⟩ (Nat.le_of_ble_eq_true rfl) dX9_onTwo_19 ⟨Nat.zero_le _, Nat.zero_le _⟩ rfl ?_
    refine V.istore_n (pc := 22) (L' := [(3, .int q7.1), (0, .ref a0), (1, .int a1), (2, .int a2)]) C dX9_onTwo_22 (by decide) rfl ?_
    refine V.iconst (pc := 23) C dX9_onTwo_23 (v := (0 : Int32)) (by decide) ?_
    refine V.istore (pc := 24) (L' := [(4, .int (0 : Int32)), (3, .int q7.1), (0, .ref a0), (1, .int a1), (2, .int a2)]) C dX9_onTwo_24 (by decide) rfl ?_
    refine V.iconst (pc := 26) C dX9_onTwo_26 (v := (0 : Int32)) (by decide) ?_
    refine V.istore (pc := 27) (L' := [(5, .int (0 : Int32)), (4, .int (0 : Int32)), (3, .int q7.1), (0, .ref a0), (1, .int a1), (2, .int a2)]) C dX9_onTwo_27 (by decide) rfl ?_
    refine V.sub (L' := [(0, .ref a0), (1, .int a1), (2, .int a2), (3, .int q7.1), (4, .int (0 : Int32)), (5, .int (0 : Int32))]) [3, 4, 5, 2, 1, 0] rfl ?_
    exact bX9_onTwo_29 C  _ _ _ _ _ _ _ _ hf
  replace hf := ite_t c6 hf
  refine V.iconst (pc := 16) C dX9_onTwo_16 (v := (-1 : Int32)) (by decide) ?_
  obtain ⟨f1, f2⟩ := fin2 hf
  clear hf
  subst f1
  subst f2
  exact V.iret (pc := 17) C rfl dX9_onTwo_17
theorem dX9_covers_0 : decode cX9_covers 0 = .ok (.aload_n 0, 1) := by decide +kernel
theorem dX9_covers_1 : decode cX9_covers 1 = .ok (.iload_n 1, 1) := by decide +kernel
theorem dX9_covers_2 : decode cX9_covers 2 = .ok (.invokevirtual 263, 3) := by decide +kernel
theorem dX9_covers_5 : decode cX9_covers 5 = .ok (.ifCond .ne 5, 3) := by decide +kernel
theorem dX9_covers_8 : decode cX9_covers 8 = .ok (.iconst (-1), 1) := by decide +kernel
theorem dX9_covers_9 : decode cX9_covers 9 = .ok (.ireturn, 1) := by decide +kernel
theorem dX9_covers_10 : decode cX9_covers 10 = .ok (.iconst 0, 1) := by decide +kernel
theorem dX9_covers_11 : decode cX9_covers 11 = .ok (.istore_n 2, 1) := by decide +kernel
theorem dX9_covers_12 : decode cX9_covers 12 = .ok (.iconst 0, 1) := by decide +kernel
theorem dX9_covers_13 : decode cX9_covers 13 = .ok (.istore_n 3, 1) := by decide +kernel
theorem dX9_covers_14 : decode cX9_covers 14 = .ok (.iload_n 3, 1) := by decide +kernel
theorem dX9_covers_15 : decode cX9_covers 15 = .ok (.aload_n 0, 1) := by decide +kernel
theorem dX9_covers_16 : decode cX9_covers 16 = .ok (.getfield 119, 3) := by decide +kernel
theorem dX9_covers_19 : decode cX9_covers 19 = .ok (.if_icmp .ge 34, 3) := by decide +kernel
theorem dX9_covers_22 : decode cX9_covers 22 = .ok (.iload_n 2, 1) := by decide +kernel
theorem dX9_covers_23 : decode cX9_covers 23 = .ok (.aload_n 0, 1) := by decide +kernel
theorem dX9_covers_24 : decode cX9_covers 24 = .ok (.iload_n 1, 1) := by decide +kernel
theorem dX9_covers_25 : decode cX9_covers 25 = .ok (.iload_n 3, 1) := by decide +kernel
theorem dX9_covers_26 : decode cX9_covers 26 = .ok (.iconst 0, 1) := by decide +kernel
theorem dX9_covers_27 : decode cX9_covers 27 = .ok (.invokevirtual 288, 3) := by decide +kernel
theorem dX9_covers_30 : decode cX9_covers 30 = .ok (.aload_n 0, 1) := by decide +kernel
theorem dX9_covers_31 : decode cX9_covers 31 = .ok (.iload_n 3, 1) := by decide +kernel
theorem dX9_covers_32 : decode cX9_covers 32 = .ok (.invokevirtual 260, 3) := by decide +kernel
theorem dX9_covers_35 : decode cX9_covers 35 = .ok (.if_icmp .ne 9, 3) := by decide +kernel
theorem dX9_covers_38 : decode cX9_covers 38 = .ok (.iconst 1, 1) := by decide +kernel
theorem dX9_covers_39 : decode cX9_covers 39 = .ok (.iload_n 3, 1) := by decide +kernel
theorem dX9_covers_40 : decode cX9_covers 40 = .ok (.ishl, 1) := by decide +kernel
theorem dX9_covers_41 : decode cX9_covers 41 = .ok (.goto 4, 3) := by decide +kernel
theorem dX9_covers_44 : decode cX9_covers 44 = .ok (.iconst 0, 1) := by decide +kernel
theorem dX9_covers_45 : decode cX9_covers 45 = .ok (.ior, 1) := by decide +kernel
theorem dX9_covers_46 : decode cX9_covers 46 = .ok (.istore_n 2, 1) := by decide +kernel
theorem dX9_covers_47 : decode cX9_covers 47 = .ok (.iinc 3 1, 3) := by decide +kernel
theorem dX9_covers_50 : decode cX9_covers 50 = .ok (.goto (-36), 3) := by decide +kernel
theorem dX9_covers_53 : decode cX9_covers 53 = .ok (.iload_n 2, 1) := by decide +kernel
theorem dX9_covers_54 : decode cX9_covers 54 = .ok (.ireturn, 1) := by decide +kernel
def fX9_covers_45 (k14 : PH → Nat → Int32 → Int32 → Int32 → Option (Int32 × PH)) (g : PH) (v0 : Nat) (v1 : Int32) (v3 : Int32) (s0 : Int32) (s1 : Int32) : Option (Int32 × PH) :=
  k14 g v0 v1 (s1 ||| s0) (v3 + (1 : Int32))
set_option maxHeartbeats 4000000 in
set_option maxRecDepth 100000 in
theorem bX9_covers_45 {K : HK} {E : HE} {r : Int32} {g' : PH} {k14 : PH → Nat → Int32 → Int32 → Int32 → Option (Int32 × PH)} (C : VC K E 4 cX9_covers RX9 (some .int)) (hk14 : ∀ (g : PH) (v0 : Nat) (v1 : Int32) (v2 : Int32) (v3 : Int32), k14 g v0 v1 v2 v3 = some (r, g') → V K E (hRm 10 241 0 0) 4 (hZ K E (some (.int r)) g' 0 0) 0 0 (kS K) g 14 [(0, .ref v0), (1, .int v1), (2, .int v2), (3, .int v3)] []) {g : PH} {v0 : Nat} {v1 : Int32} {v3 : Int32} {s0 : Int32} {s1 : Int32} (hf : fX9_covers_45 k14 g v0 v1 v3 s0 s1 = some (r, g')) : V K E (hRm 10 241 0 0) 4 (hZ K E (some (.int r)) g' 0 0) 0 0 (kS K) g 45 [(0, .ref v0), (1, .int v1), (3, .int v3)] [.int s0, .int s1] := by
  unfold fX9_covers_45 at hf
  refine V.ior (pc := 45) C dX9_covers_45 ?_
  refine V.istore_n (pc := 46) (L' := [(2, .int (s1 ||| s0)), (0, .ref v0), (1, .int v1), (3, .int v3)]) C dX9_covers_46 (by decide) rfl ?_
  refine V.iinc (pc := 47) (v := (v3 + (1 : Int32))) (L' := [(3, .int (v3 + (1 : Int32))), (2, .int (s1 ||| s0)), (0, .ref v0), (1, .int v1)]) C dX9_covers_47 3 rfl rfl (by decide) rfl ?_
  refine V.goto (pc := 50) (t := 14) C dX9_covers_50 (by decide) ?_
  refine V.sub (L' := [(0, .ref v0), (1, .int v1), (2, .int (s1 ||| s0)), (3, .int (v3 + (1 : Int32)))]) [2, 3, 1, 0] rfl ?_
  exact hk14 _ _ _ _ _ hf
def fX9_covers_14  : Nat → PH → Nat → Int32 → Int32 → Int32 → Option (Int32 × PH)
  | 0, _, _, _, _, _ => none
  | n + 1, g, v0, v1, v2, v3 =>
  (getI g v0 9 7).bind fun x1 =>
  (if x1 ≤ v3 then (some (v2, g)) else
  ((fX9_caught g v0 v1 v3 (0 : Int32)).bind fun q4 =>
  ((fX9_placements q4.2 v0 v3).bind fun q6 =>
  (if q4.1 = q6.1 then (fX9_covers_45 (fX9_covers_14 n) q6.2 v0 v1 v3 ((1 : Int32) <<< (v3 &&& 31)) v2) else
  (fX9_covers_45 (fX9_covers_14 n) q6.2 v0 v1 v3 (0 : Int32) v2)))))
set_option maxHeartbeats 4000000 in
set_option maxRecDepth 100000 in
theorem bX9_covers_14 {K : HK} {E : HE} {r : Int32} {g' : PH}  (C : VC K E 4 cX9_covers RX9 (some .int))  : ∀ (n : Nat) (g : PH) (v0 : Nat) (v1 : Int32) (v2 : Int32) (v3 : Int32), fX9_covers_14  n g v0 v1 v2 v3 = some (r, g') → V K E (hRm 10 241 0 0) 4 (hZ K E (some (.int r)) g' 0 0) 0 0 (kS K) g 14 [(0, .ref v0), (1, .int v1), (2, .int v2), (3, .int v3)] [] := by
  intro n
  induction n with
  | zero =>
    intro g v0 v1 v2 v3 hf
    rw [fX9_covers_14] at hf
    cases hf
  | succ n ih =>
    intro g v0 v1 v2 v3 hf
    rw [fX9_covers_14] at hf
    refine V.iload_n (pc := 14) C dX9_covers_14 3 rfl ?_
    refine V.aload_n (pc := 15) C dX9_covers_15 0 rfl ?_
    replace hf := ob_some hf
    obtain ⟨x1, h2, hf⟩ := hf
    refine V.getI (pc := 16) C kX9 (k := 7) (by decide) wd_1057 h2 dX9_covers_16 ?_
    refine V.icmp_ge (pc := 19) (t := 53) C dX9_covers_19 (by decide) (fun c3 => ?_) (fun c3 => ?_)
    · replace hf := ite_t c3 hf
      refine V.iload_n (pc := 53) C dX9_covers_53 2 rfl ?_
      obtain ⟨f1, f2⟩ := fin2 hf
      clear hf
      subst f1
      subst f2
      exact V.iret (pc := 54) C rfl dX9_covers_54
    replace hf := ite_f c3 hf
    refine V.iload_n (pc := 22) C dX9_covers_22 2 rfl ?_
    refine V.aload_n (pc := 23) C dX9_covers_23 0 rfl ?_
    refine V.iload_n (pc := 24) C dX9_covers_24 1 rfl ?_
    refine V.iload_n (pc := 25) C dX9_covers_25 3 rfl ?_
    refine V.iconst (pc := 26) C dX9_covers_26 (v := (0 : Int32)) (by decide) ?_
    replace hf := ob_some hf
    obtain ⟨q4, h5, hf⟩ := hf
    refine V.callV0i (pc := 27) C hyX9_caught wd_1408 (mX9_caught (r := q4.1) (g' := q4.2) K.2.1 E (kS K) h5) rfl rfl rfl (oX9_caught h5) ⟨Nat.le_of_ble_eq_true rfl, Nat.le_of_ble_eq_true rfl⟩ (Nat.le_of_ble_eq_true rfl) dX9_covers_27 ⟨Nat.zero_le _, Nat.zero_le _⟩ rfl ?_
    refine V.aload_n (pc := 30) C dX9_covers_30 0 rfl ?_
    refine V.iload_n (pc := 31) C dX9_covers_31 3 rfl ?_
    replace hf := ob_some hf
    obtain ⟨q6, h7, hf⟩ := hf
    refine V.callV0i (pc := 32) C hyX9_placements wd_1279 (mX9_placements (r := q6.1) (g' := q6.2) K.2.1 E (kS K) h7) rfl rfl rfl (oX9_placements h7) ⟨Nat.le_of_ble_eq_true rfl, Nat.le_of_ble_eq_true rfl⟩ (Nat.le_of_ble_eq_true rfl) dX9_covers_32 ⟨Nat.zero_le _, Nat.zero_le _⟩ rfl ?_
    refine V.icmp_ne (pc := 35) (t := 44) C dX9_covers_35 (by decide) (fun c8 => ?_) (fun c8 => ?_)
    · replace hf := ite_f c8 hf
      refine V.iconst (pc := 44) C dX9_covers_44 (v := (0 : Int32)) (by decide) ?_
      refine V.sub (L' := [(0, .ref v0), (1, .int v1), (3, .int v3)]) [0, 1, 3] rfl ?_
      exact bX9_covers_45 C ih hf
    replace hf := ite_t c8 hf
    refine V.iconst (pc := 38) C dX9_covers_38 (v := (1 : Int32)) (by decide) ?_
    refine V.iload_n (pc := 39) C dX9_covers_39 3 rfl ?_
    refine V.ishl (pc := 40) C dX9_covers_40 ?_
    refine V.goto (pc := 41) (t := 45) C dX9_covers_41 (by decide) ?_
    refine V.sub (L' := [(0, .ref v0), (1, .int v1), (3, .int v3)]) [0, 1, 3] rfl ?_
    exact bX9_covers_45 C ih hf
def fX9_covers (g : PH) (a0 : Nat) (a1 : Int32) : Option (Int32 × PH) :=
  okb (isO g a0 9) ((fX9_isMarch g a0 a1).bind fun q1 =>
  (if q1.1 = 0 then (some ((-1 : Int32), q1.2)) else
  (fX9_covers_14 FUEL q1.2 a0 a1 (0 : Int32) (0 : Int32))))
theorem oX9_covers {g : PH} {a0 : Nat} {a1 : Int32} {q : (Int32 × PH)} (h : fX9_covers g a0 a1 = some q) : isO g a0 9 = true := by unfold fX9_covers at h; exact (okb_some h).1
theorem hyX9_covers : hMet yX9_covers RX9 cX9_covers 4 (some .int) 1 := ⟨wd_1407, wd_1405, wd_1406, wd_7, rfl, by decide +kernel, by decide +kernel, by decide +kernel⟩
set_option maxHeartbeats 4000000 in
set_option maxRecDepth 100000 in
theorem mX9_covers (l : Launch) (E : HE) (sz : Nat) {g g' : PH} {a0 : Nat} {a1 : Int32} {r : Int32} (hf : fX9_covers g a0 a1 = some (r, g')) : hM l E yX9_covers cX9_covers 4 (some .int) 10 241 0 0 sz g [.ref a0, .int a1] (some (.int r)) g' := by
  refine hM.of (by decide) (Nat.le_of_ble_eq_true rfl) (fun K hl C hin hsz => ?_)
  subst hl
  subst hsz
  have C : VC K E 4 cX9_covers RX9 (some .int) := C
  unfold fX9_covers at hf
  replace hf := okb_some hf
  obtain ⟨ho, hf⟩ := hf
  refine V.start (L' := [(0, .ref a0), (1, .int a1)]) rfl ?_
  refine V.aload_n (pc := 0) C dX9_covers_0 0 rfl ?_
  refine V.iload_n (pc := 1) C dX9_covers_1 1 rfl ?_
  replace hf := ob_some hf
  obtain ⟨q1, h2, hf⟩ := hf
  refine V.callV0i (pc := 2) C hyX9_isMarch wd_1287 (mX9_isMarch (r := q1.1) (g' := q1.2) K.2.1 E (kS K) h2) rfl rfl rfl (oX9_isMarch h2) ⟨Nat.le_of_ble_eq_true rfl, Nat.le_of_ble_eq_true rfl⟩ (Nat.le_of_ble_eq_true rfl) dX9_covers_2 ⟨Nat.zero_le _, Nat.zero_le _⟩ rfl ?_
  refine V.if_ne (pc := 5) (t := 10) C dX9_covers_5 (by decide) (fun c3 => ?_) (fun c3 => ?_)
  · replace hf := ite_f c3 hf
    refine V.iconst (pc := 10) C dX9_covers_10 (v := (0 : Int32)) (by decide) ?_
    refine V.istore_n (pc := 11) (L' := [(2, .int (0 : Int32)), (0, .ref a0), (1, .int a1)]) C dX9_covers_11 (by decide) rfl ?_
    refine V.iconst (pc := 12) C dX9_covers_12 (v := (0 : Int32)) (by decide) ?_
    refine V.istore_n (pc := 13) (L' := [(3, .int (0 : Int32)), (2, .int (0 : Int32)), (0, .ref a0), (1, .int a1)]) C dX9_covers_13 (by decide) rfl ?_
    refine V.sub (L' := [(0, .ref a0), (1, .int a1), (2, .int (0 : Int32)), (3, .int (0 : Int32))]) [2, 3, 1, 0] rfl ?_
    exact bX9_covers_14 C  _ _ _ _ _ _ hf
  replace hf := ite_t c3 hf
  refine V.iconst (pc := 8) C dX9_covers_8 (v := (-1 : Int32)) (by decide) ?_
  obtain ⟨f1, f2⟩ := fin2 hf
  clear hf
  subst f1
  subst f2
  exact V.iret (pc := 9) C rfl dX9_covers_9
theorem dX9_partOf_0 : decode cX9_partOf 0 = .ok (.aload_n 0, 1) := by decide +kernel
theorem dX9_partOf_1 : decode cX9_partOf 1 = .ok (.getfield 44, 3) := by decide +kernel
theorem dX9_partOf_4 : decode cX9_partOf 4 = .ok (.iconst 4, 1) := by decide +kernel
theorem dX9_partOf_5 : decode cX9_partOf 5 = .ok (.iload_n 1, 1) := by decide +kernel
theorem dX9_partOf_6 : decode cX9_partOf 6 = .ok (.imul, 1) := by decide +kernel
theorem dX9_partOf_7 : decode cX9_partOf 7 = .ok (.iload_n 2, 1) := by decide +kernel
theorem dX9_partOf_8 : decode cX9_partOf 8 = .ok (.bipush 20, 2) := by decide +kernel
theorem dX9_partOf_10 : decode cX9_partOf 10 = .ok (.idiv, 1) := by decide +kernel
theorem dX9_partOf_11 : decode cX9_partOf 11 = .ok (.iadd, 1) := by decide +kernel
theorem dX9_partOf_12 : decode cX9_partOf 12 = .ok (.laload, 1) := by decide +kernel
theorem dX9_partOf_13 : decode cX9_partOf 13 = .ok (.iconst 3, 1) := by decide +kernel
theorem dX9_partOf_14 : decode cX9_partOf 14 = .ok (.iload_n 2, 1) := by decide +kernel
theorem dX9_partOf_15 : decode cX9_partOf 15 = .ok (.bipush 20, 2) := by decide +kernel
theorem dX9_partOf_17 : decode cX9_partOf 17 = .ok (.irem, 1) := by decide +kernel
theorem dX9_partOf_18 : decode cX9_partOf 18 = .ok (.imul, 1) := by decide +kernel
theorem dX9_partOf_19 : decode cX9_partOf 19 = .ok (.lshr, 1) := by decide +kernel
theorem dX9_partOf_20 : decode cX9_partOf 20 = .ok (.ldc2_w 268, 3) := by decide +kernel
theorem dX9_partOf_23 : decode cX9_partOf 23 = .ok (.land, 1) := by decide +kernel
theorem dX9_partOf_24 : decode cX9_partOf 24 = .ok (.l2i, 1) := by decide +kernel
theorem dX9_partOf_25 : decode cX9_partOf 25 = .ok (.ireturn, 1) := by decide +kernel
def fX9_partOf (g : PH) (a0 : Nat) (a1 : Int32) (a2 : Int32) : Option (Int32 × PH) :=
  okb (isO g a0 9) ((getR g a0 9 25).bind fun p1 =>
  ((ldL g p1 (((4 : Int32) * a1) + (a2 / (20 : Int32)))).bind fun x3 =>
  (some (((x3 >>> (((3 : Int32) * (a2 - a2 / (20 : Int32) * (20 : Int32))).toInt64 &&& 63)) &&& (7 : Int64)).toInt32, g))))
theorem oX9_partOf {g : PH} {a0 : Nat} {a1 : Int32} {a2 : Int32} {q : (Int32 × PH)} (h : fX9_partOf g a0 a1 a2 = some q) : isO g a0 9 = true := by unfold fX9_partOf at h; exact (okb_some h).1
theorem hyX9_partOf : hMet yX9_partOf RX9 cX9_partOf 3 (some .int) 2 := ⟨wd_1455, wd_1454, ws_102, wd_7, rfl, by decide +kernel, by decide +kernel, by decide +kernel⟩
set_option maxHeartbeats 4000000 in
set_option maxRecDepth 100000 in
theorem mX9_partOf (l : Launch) (E : HE) (sz : Nat) {g g' : PH} {a0 : Nat} {a1 : Int32} {a2 : Int32} {r : Int32} (hf : fX9_partOf g a0 a1 a2 = some (r, g')) : hM l E yX9_partOf cX9_partOf 3 (some .int) 0 0 0 0 sz g [.ref a0, .int a1, .int a2] (some (.int r)) g' := by
  refine hM.of (by decide) (Nat.le_of_ble_eq_true rfl) (fun K hl C hin hsz => ?_)
  subst hl
  subst hsz
  have C : VC K E 3 cX9_partOf RX9 (some .int) := C
  unfold fX9_partOf at hf
  replace hf := okb_some hf
  obtain ⟨ho, hf⟩ := hf
  refine V.start (L' := [(0, .ref a0), (1, .int a1), (2, .int a2)]) rfl ?_
  refine V.aload_n (pc := 0) C dX9_partOf_0 0 rfl ?_
  replace hf := ob_some hf
  obtain ⟨p1, h2, hf⟩ := hf
  refine V.getR (pc := 1) C kX9 (k := 25) (by decide) wd_1075 h2 dX9_partOf_1 ?_
  refine V.iconst (pc := 4) C dX9_partOf_4 (v := (4 : Int32)) (by decide) ?_
  refine V.iload_n (pc := 5) C dX9_partOf_5 1 rfl ?_
  refine V.imul (pc := 6) C dX9_partOf_6 ?_
  refine V.iload_n (pc := 7) C dX9_partOf_7 2 rfl ?_
  refine V.bipush (pc := 8) C dX9_partOf_8 (v := (20 : Int32)) (by decide) ?_
  refine V.idiv (pc := 10) C dX9_partOf_10 (by decide) ?_
  refine V.iadd (pc := 11) C dX9_partOf_11 ?_
  replace hf := ob_some hf
  obtain ⟨x3, h4, hf⟩ := hf
  refine V.lald (pc := 12) C h4 dX9_partOf_12 ?_
  refine V.iconst (pc := 13) C dX9_partOf_13 (v := (3 : Int32)) (by decide) ?_
  refine V.iload_n (pc := 14) C dX9_partOf_14 2 rfl ?_
  refine V.bipush (pc := 15) C dX9_partOf_15 (v := (20 : Int32)) (by decide) ?_
  refine V.irem (pc := 17) C dX9_partOf_17 (by decide) ?_
  refine V.imul (pc := 18) C dX9_partOf_18 ?_
  refine V.lshr (pc := 19) C dX9_partOf_19 ?_
  refine V.ldc2 (pc := 20) C wd_1304 dX9_partOf_20 ?_
  refine V.land (pc := 23) C dX9_partOf_23 ?_
  refine V.l2i (pc := 24) C dX9_partOf_24 ?_
  obtain ⟨f1, f2⟩ := fin2 hf
  clear hf
  subst f1
  subst f2
  exact V.iret (pc := 25) C rfl dX9_partOf_25
theorem dX9_builds_0 : decode cX9_builds 0 = .ok (.iload_n 1, 1) := by decide +kernel
theorem dX9_builds_1 : decode cX9_builds 1 = .ok (.ifCond .ne 26, 3) := by decide +kernel
theorem dX9_builds_4 : decode cX9_builds 4 = .ok (.iconst 0, 1) := by decide +kernel
theorem dX9_builds_5 : decode cX9_builds 5 = .ok (.istore 4, 2) := by decide +kernel
theorem dX9_builds_7 : decode cX9_builds 7 = .ok (.iload 4, 2) := by decide +kernel
theorem dX9_builds_9 : decode cX9_builds 9 = .ok (.iconst 4, 1) := by decide +kernel
theorem dX9_builds_10 : decode cX9_builds 10 = .ok (.if_icmp .ge 17, 3) := by decide +kernel
theorem dX9_builds_13 : decode cX9_builds 13 = .ok (.aload_n 0, 1) := by decide +kernel
theorem dX9_builds_14 : decode cX9_builds 14 = .ok (.getfield 63, 3) := by decide +kernel
theorem dX9_builds_17 : decode cX9_builds 17 = .ok (.iload 4, 2) := by decide +kernel
theorem dX9_builds_19 : decode cX9_builds 19 = .ok (.lconst 0, 1) := by decide +kernel
theorem dX9_builds_20 : decode cX9_builds 20 = .ok (.lastore, 1) := by decide +kernel
theorem dX9_builds_21 : decode cX9_builds 21 = .ok (.iinc 4 1, 3) := by decide +kernel
theorem dX9_builds_24 : decode cX9_builds 24 = .ok (.goto (-17), 3) := by decide +kernel
theorem dX9_builds_27 : decode cX9_builds 27 = .ok (.aload_n 0, 1) := by decide +kernel
theorem dX9_builds_28 : decode cX9_builds 28 = .ok (.getfield 63, 3) := by decide +kernel
theorem dX9_builds_31 : decode cX9_builds 31 = .ok (.iload_n 1, 1) := by decide +kernel
theorem dX9_builds_32 : decode cX9_builds 32 = .ok (.bipush 20, 2) := by decide +kernel
theorem dX9_builds_34 : decode cX9_builds 34 = .ok (.idiv, 1) := by decide +kernel
theorem dX9_builds_35 : decode cX9_builds 35 = .ok (.dup2, 1) := by decide +kernel
theorem dX9_builds_36 : decode cX9_builds 36 = .ok (.laload, 1) := by decide +kernel
theorem dX9_builds_37 : decode cX9_builds 37 = .ok (.lload_n 2, 1) := by decide +kernel
theorem dX9_builds_38 : decode cX9_builds 38 = .ok (.iconst 3, 1) := by decide +kernel
theorem dX9_builds_39 : decode cX9_builds 39 = .ok (.iload_n 1, 1) := by decide +kernel
theorem dX9_builds_40 : decode cX9_builds 40 = .ok (.bipush 20, 2) := by decide +kernel
theorem dX9_builds_42 : decode cX9_builds 42 = .ok (.irem, 1) := by decide +kernel
theorem dX9_builds_43 : decode cX9_builds 43 = .ok (.imul, 1) := by decide +kernel
theorem dX9_builds_44 : decode cX9_builds 44 = .ok (.lshl, 1) := by decide +kernel
theorem dX9_builds_45 : decode cX9_builds 45 = .ok (.lor, 1) := by decide +kernel
theorem dX9_builds_46 : decode cX9_builds 46 = .ok (.lastore, 1) := by decide +kernel
theorem dX9_builds_47 : decode cX9_builds 47 = .ok (.return_, 1) := by decide +kernel
def fX9_builds_27  (g : PH) (v0 : Nat) (v1 : Int32) (v2 : Int64) : Option (Unit × PH) :=
  (getR g v0 9 33).bind fun p1 =>
  ((ldL g p1 (v1 / (20 : Int32))).bind fun x3 =>
  ((stL g p1 (v1 / (20 : Int32)) (x3 ||| (v2 <<< (((3 : Int32) * (v1 - v1 / (20 : Int32) * (20 : Int32))).toInt64 &&& 63)))).bind fun g5 =>
  (some ((), g5))))
set_option maxHeartbeats 4000000 in
set_option maxRecDepth 100000 in
theorem bX9_builds_27 {K : HK} {E : HE} {r : Unit} {g' : PH}  (C : VC K E 5 cX9_builds RX9 none)  {g : PH} {v0 : Nat} {v1 : Int32} {v2 : Int64} (hf : fX9_builds_27  g v0 v1 v2 = some (r, g')) : V K E (hRm 0 0 0 0) 5 (hZ K E none g' 0 0) 0 0 (kS K) g 27 [(0, .ref v0), (1, .int v1), (2, .long v2)] [] := by
  unfold fX9_builds_27 at hf
  refine V.aload_n (pc := 27) C dX9_builds_27 0 rfl ?_
  replace hf := ob_some hf
  obtain ⟨p1, h2, hf⟩ := hf
  refine V.getR (pc := 28) C kX9 (k := 33) (by decide) wd_1083 h2 dX9_builds_28 ?_
  refine V.iload_n (pc := 31) C dX9_builds_31 1 rfl ?_
  refine V.bipush (pc := 32) C dX9_builds_32 (v := (20 : Int32)) (by decide) ?_
  refine V.idiv (pc := 34) C dX9_builds_34 (by decide) ?_
  refine V.dup2 (pc := 35) C dX9_builds_35 rfl rfl ?_
  replace hf := ob_some hf
  obtain ⟨x3, h4, hf⟩ := hf
  refine V.lald (pc := 36) C h4 dX9_builds_36 ?_
  refine V.lload_n (pc := 37) C dX9_builds_37 2 rfl ?_
  refine V.iconst (pc := 38) C dX9_builds_38 (v := (3 : Int32)) (by decide) ?_
  refine V.iload_n (pc := 39) C dX9_builds_39 1 rfl ?_
  refine V.bipush (pc := 40) C dX9_builds_40 (v := (20 : Int32)) (by decide) ?_
  refine V.irem (pc := 42) C dX9_builds_42 (by decide) ?_
  refine V.imul (pc := 43) C dX9_builds_43 ?_
  refine V.lshl (pc := 44) C dX9_builds_44 ?_
  refine V.lor (pc := 45) C dX9_builds_45 ?_
  replace hf := ob_some hf
  obtain ⟨g5, h6, hf⟩ := hf
  refine V.last (pc := 46) C h6 dX9_builds_46 ?_
  obtain ⟨f1, f2⟩ := fin2 hf
  clear hf
  subst f1
  subst f2
  exact V.vret (pc := 47) C rfl dX9_builds_47
def fX9_builds_7  : Nat → PH → Nat → Int32 → Int64 → Int32 → Option (Unit × PH)
  | 0, _, _, _, _, _ => none
  | n + 1, g, v0, v1, v2, v4 =>
  if (4 : Int32) ≤ v4 then (fX9_builds_27 g v0 v1 v2) else
  ((getR g v0 9 33).bind fun p2 =>
  ((stL g p2 v4 (0 : Int64)).bind fun g4 =>
  (fX9_builds_7 n g4 v0 v1 v2 (v4 + (1 : Int32)))))
set_option maxHeartbeats 4000000 in
set_option maxRecDepth 100000 in
theorem bX9_builds_7 {K : HK} {E : HE} {r : Unit} {g' : PH}  (C : VC K E 5 cX9_builds RX9 none)  : ∀ (n : Nat) (g : PH) (v0 : Nat) (v1 : Int32) (v2 : Int64) (v4 : Int32), fX9_builds_7  n g v0 v1 v2 v4 = some (r, g') → V K E (hRm 0 0 0 0) 5 (hZ K E none g' 0 0) 0 0 (kS K) g 7 [(0, .ref v0), (1, .int v1), (2, .long v2), (4, .int v4)] [] := by
  intro n
  induction n with
  | zero =>
    intro g v0 v1 v2 v4 hf
    rw [fX9_builds_7] at hf
    cases hf
  | succ n ih =>
    intro g v0 v1 v2 v4 hf
    rw [fX9_builds_7] at hf
    refine V.iload (pc := 7) C dX9_builds_7 3 rfl ?_
    refine V.iconst (pc := 9) C dX9_builds_9 (v := (4 : Int32)) (by decide) ?_
    refine V.icmp_ge (pc := 10) (t := 27) C dX9_builds_10 (by decide) (fun c1 => ?_) (fun c1 => ?_)
    · replace hf := ite_t c1 hf
      refine V.sub (L' := [(0, .ref v0), (1, .int v1), (2, .long v2)]) [0, 1, 2] rfl ?_
      exact bX9_builds_27 C  hf
    replace hf := ite_f c1 hf
    refine V.aload_n (pc := 13) C dX9_builds_13 0 rfl ?_
    replace hf := ob_some hf
    obtain ⟨p2, h3, hf⟩ := hf
    refine V.getR (pc := 14) C kX9 (k := 33) (by decide) wd_1083 h3 dX9_builds_14 ?_
    refine V.iload (pc := 17) C dX9_builds_17 3 rfl ?_
    refine V.lconst (pc := 19) C dX9_builds_19 (v := (0 : Int64)) (by decide) ?_
    replace hf := ob_some hf
    obtain ⟨g4, h5, hf⟩ := hf
    refine V.last (pc := 20) C h5 dX9_builds_20 ?_
    refine V.iinc (pc := 21) (v := (v4 + (1 : Int32))) (L' := [(4, .int (v4 + (1 : Int32))), (0, .ref v0), (1, .int v1), (2, .long v2)]) C dX9_builds_21 3 rfl rfl (by decide) rfl ?_
    refine V.goto (pc := 24) (t := 7) C dX9_builds_24 (by decide) ?_
    refine V.sub (L' := [(0, .ref v0), (1, .int v1), (2, .long v2), (4, .int (v4 + (1 : Int32)))]) [1, 2, 3, 0] rfl ?_
    exact ih _ _ _ _ _ hf
def fX9_builds (g : PH) (a0 : Nat) (a1 : Int32) (a2 : Int64) : Option (Unit × PH) :=
  okb (isO g a0 9) (if a1 = 0 then (fX9_builds_7 FUEL g a0 a1 a2 (0 : Int32)) else
  (fX9_builds_27 g a0 a1 a2))
theorem oX9_builds {g : PH} {a0 : Nat} {a1 : Int32} {a2 : Int64} {q : (Unit × PH)} (h : fX9_builds g a0 a1 a2 = some q) : isO g a0 9 = true := by unfold fX9_builds at h; exact (okb_some h).1
theorem hyX9_builds : hMet yX9_builds RX9 cX9_builds 5 none 2 := ⟨wd_1436, wd_1435, ws_98, wd_7, rfl, by decide +kernel, by decide +kernel, by decide +kernel⟩
set_option maxHeartbeats 4000000 in
set_option maxRecDepth 100000 in
theorem mX9_builds (l : Launch) (E : HE) (sz : Nat) {g g' : PH} {a0 : Nat} {a1 : Int32} {a2 : Int64} {r : Unit} (hf : fX9_builds g a0 a1 a2 = some (r, g')) : hM l E yX9_builds cX9_builds 5 none 0 0 0 0 sz g [.ref a0, .int a1, .long a2] none g' := by
  refine hM.of (by decide) (Nat.le_of_ble_eq_true rfl) (fun K hl C hin hsz => ?_)
  subst hl
  subst hsz
  have C : VC K E 5 cX9_builds RX9 none := C
  unfold fX9_builds at hf
  replace hf := okb_some hf
  obtain ⟨ho, hf⟩ := hf
  refine V.start (L' := [(0, .ref a0), (1, .int a1), (2, .long a2)]) rfl ?_
  refine V.iload_n (pc := 0) C dX9_builds_0 1 rfl ?_
  refine V.if_ne (pc := 1) (t := 27) C dX9_builds_1 (by decide) (fun c1 => ?_) (fun c1 => ?_)
  · replace hf := ite_f c1 hf
    refine V.sub (L' := [(0, .ref a0), (1, .int a1), (2, .long a2)]) [0, 1, 2] rfl ?_
    exact bX9_builds_27 C  hf
  replace hf := ite_t c1 hf
  refine V.iconst (pc := 4) C dX9_builds_4 (v := (0 : Int32)) (by decide) ?_
  refine V.istore (pc := 5) (L' := [(4, .int (0 : Int32)), (0, .ref a0), (1, .int a1), (2, .long a2)]) C dX9_builds_5 (by decide) rfl ?_
  refine V.sub (L' := [(0, .ref a0), (1, .int a1), (2, .long a2), (4, .int (0 : Int32))]) [1, 2, 3, 0] rfl ?_
  exact bX9_builds_7 C  _ _ _ _ _ _ hf
theorem dX9_stateBuilt_0 : decode cX9_stateBuilt 0 = .ok (.iconst 0, 1) := by decide +kernel
theorem dX9_stateBuilt_1 : decode cX9_stateBuilt 1 = .ok (.istore_n 1, 1) := by decide +kernel
theorem dX9_stateBuilt_2 : decode cX9_stateBuilt 2 = .ok (.iload_n 1, 1) := by decide +kernel
theorem dX9_stateBuilt_3 : decode cX9_stateBuilt 3 = .ok (.aload_n 0, 1) := by decide +kernel
theorem dX9_stateBuilt_4 : decode cX9_stateBuilt 4 = .ok (.getfield 292, 3) := by decide +kernel
theorem dX9_stateBuilt_7 : decode cX9_stateBuilt 7 = .ok (.if_icmp .ge 89, 3) := by decide +kernel
theorem dX9_stateBuilt_10 : decode cX9_stateBuilt 10 = .ok (.aload_n 0, 1) := by decide +kernel
theorem dX9_stateBuilt_11 : decode cX9_stateBuilt 11 = .ok (.getfield 44, 3) := by decide +kernel
theorem dX9_stateBuilt_14 : decode cX9_stateBuilt 14 = .ok (.iconst 4, 1) := by decide +kernel
theorem dX9_stateBuilt_15 : decode cX9_stateBuilt 15 = .ok (.iload_n 1, 1) := by decide +kernel
theorem dX9_stateBuilt_16 : decode cX9_stateBuilt 16 = .ok (.imul, 1) := by decide +kernel
theorem dX9_stateBuilt_17 : decode cX9_stateBuilt 17 = .ok (.laload, 1) := by decide +kernel
theorem dX9_stateBuilt_18 : decode cX9_stateBuilt 18 = .ok (.aload_n 0, 1) := by decide +kernel
theorem dX9_stateBuilt_19 : decode cX9_stateBuilt 19 = .ok (.getfield 63, 3) := by decide +kernel
theorem dX9_stateBuilt_22 : decode cX9_stateBuilt 22 = .ok (.iconst 0, 1) := by decide +kernel
theorem dX9_stateBuilt_23 : decode cX9_stateBuilt 23 = .ok (.laload, 1) := by decide +kernel
theorem dX9_stateBuilt_24 : decode cX9_stateBuilt 24 = .ok (.lcmp, 1) := by decide +kernel
theorem dX9_stateBuilt_25 : decode cX9_stateBuilt 25 = .ok (.ifCond .ne 65, 3) := by decide +kernel
theorem dX9_stateBuilt_28 : decode cX9_stateBuilt 28 = .ok (.aload_n 0, 1) := by decide +kernel
theorem dX9_stateBuilt_29 : decode cX9_stateBuilt 29 = .ok (.getfield 44, 3) := by decide +kernel
theorem dX9_stateBuilt_32 : decode cX9_stateBuilt 32 = .ok (.iconst 4, 1) := by decide +kernel
theorem dX9_stateBuilt_33 : decode cX9_stateBuilt 33 = .ok (.iload_n 1, 1) := by decide +kernel
theorem dX9_stateBuilt_34 : decode cX9_stateBuilt 34 = .ok (.imul, 1) := by decide +kernel
theorem dX9_stateBuilt_35 : decode cX9_stateBuilt 35 = .ok (.iconst 1, 1) := by decide +kernel
theorem dX9_stateBuilt_36 : decode cX9_stateBuilt 36 = .ok (.iadd, 1) := by decide +kernel
theorem dX9_stateBuilt_37 : decode cX9_stateBuilt 37 = .ok (.laload, 1) := by decide +kernel
theorem dX9_stateBuilt_38 : decode cX9_stateBuilt 38 = .ok (.aload_n 0, 1) := by decide +kernel
theorem dX9_stateBuilt_39 : decode cX9_stateBuilt 39 = .ok (.getfield 63, 3) := by decide +kernel
theorem dX9_stateBuilt_42 : decode cX9_stateBuilt 42 = .ok (.iconst 1, 1) := by decide +kernel
theorem dX9_stateBuilt_43 : decode cX9_stateBuilt 43 = .ok (.laload, 1) := by decide +kernel
theorem dX9_stateBuilt_44 : decode cX9_stateBuilt 44 = .ok (.lcmp, 1) := by decide +kernel
theorem dX9_stateBuilt_45 : decode cX9_stateBuilt 45 = .ok (.ifCond .ne 45, 3) := by decide +kernel
theorem dX9_stateBuilt_48 : decode cX9_stateBuilt 48 = .ok (.aload_n 0, 1) := by decide +kernel
theorem dX9_stateBuilt_49 : decode cX9_stateBuilt 49 = .ok (.getfield 44, 3) := by decide +kernel
theorem dX9_stateBuilt_52 : decode cX9_stateBuilt 52 = .ok (.iconst 4, 1) := by decide +kernel
theorem dX9_stateBuilt_53 : decode cX9_stateBuilt 53 = .ok (.iload_n 1, 1) := by decide +kernel
theorem dX9_stateBuilt_54 : decode cX9_stateBuilt 54 = .ok (.imul, 1) := by decide +kernel
theorem dX9_stateBuilt_55 : decode cX9_stateBuilt 55 = .ok (.iconst 2, 1) := by decide +kernel
theorem dX9_stateBuilt_56 : decode cX9_stateBuilt 56 = .ok (.iadd, 1) := by decide +kernel
theorem dX9_stateBuilt_57 : decode cX9_stateBuilt 57 = .ok (.laload, 1) := by decide +kernel
theorem dX9_stateBuilt_58 : decode cX9_stateBuilt 58 = .ok (.aload_n 0, 1) := by decide +kernel
theorem dX9_stateBuilt_59 : decode cX9_stateBuilt 59 = .ok (.getfield 63, 3) := by decide +kernel
theorem dX9_stateBuilt_62 : decode cX9_stateBuilt 62 = .ok (.iconst 2, 1) := by decide +kernel
theorem dX9_stateBuilt_63 : decode cX9_stateBuilt 63 = .ok (.laload, 1) := by decide +kernel
theorem dX9_stateBuilt_64 : decode cX9_stateBuilt 64 = .ok (.lcmp, 1) := by decide +kernel
theorem dX9_stateBuilt_65 : decode cX9_stateBuilt 65 = .ok (.ifCond .ne 25, 3) := by decide +kernel
theorem dX9_stateBuilt_68 : decode cX9_stateBuilt 68 = .ok (.aload_n 0, 1) := by decide +kernel
theorem dX9_stateBuilt_69 : decode cX9_stateBuilt 69 = .ok (.getfield 44, 3) := by decide +kernel
theorem dX9_stateBuilt_72 : decode cX9_stateBuilt 72 = .ok (.iconst 4, 1) := by decide +kernel
theorem dX9_stateBuilt_73 : decode cX9_stateBuilt 73 = .ok (.iload_n 1, 1) := by decide +kernel
theorem dX9_stateBuilt_74 : decode cX9_stateBuilt 74 = .ok (.imul, 1) := by decide +kernel
theorem dX9_stateBuilt_75 : decode cX9_stateBuilt 75 = .ok (.iconst 3, 1) := by decide +kernel
theorem dX9_stateBuilt_76 : decode cX9_stateBuilt 76 = .ok (.iadd, 1) := by decide +kernel
theorem dX9_stateBuilt_77 : decode cX9_stateBuilt 77 = .ok (.laload, 1) := by decide +kernel
theorem dX9_stateBuilt_78 : decode cX9_stateBuilt 78 = .ok (.aload_n 0, 1) := by decide +kernel
theorem dX9_stateBuilt_79 : decode cX9_stateBuilt 79 = .ok (.getfield 63, 3) := by decide +kernel
theorem dX9_stateBuilt_82 : decode cX9_stateBuilt 82 = .ok (.iconst 3, 1) := by decide +kernel
theorem dX9_stateBuilt_83 : decode cX9_stateBuilt 83 = .ok (.laload, 1) := by decide +kernel
theorem dX9_stateBuilt_84 : decode cX9_stateBuilt 84 = .ok (.lcmp, 1) := by decide +kernel
theorem dX9_stateBuilt_85 : decode cX9_stateBuilt 85 = .ok (.ifCond .ne 5, 3) := by decide +kernel
theorem dX9_stateBuilt_88 : decode cX9_stateBuilt 88 = .ok (.iload_n 1, 1) := by decide +kernel
theorem dX9_stateBuilt_89 : decode cX9_stateBuilt 89 = .ok (.ireturn, 1) := by decide +kernel
theorem dX9_stateBuilt_90 : decode cX9_stateBuilt 90 = .ok (.iinc 1 1, 3) := by decide +kernel
theorem dX9_stateBuilt_93 : decode cX9_stateBuilt 93 = .ok (.goto (-91), 3) := by decide +kernel
theorem dX9_stateBuilt_96 : decode cX9_stateBuilt 96 = .ok (.iconst (-1), 1) := by decide +kernel
theorem dX9_stateBuilt_97 : decode cX9_stateBuilt 97 = .ok (.ireturn, 1) := by decide +kernel
def fX9_stateBuilt_90 (k2 : PH → Nat → Int32 → Option (Int32 × PH)) (g : PH) (v0 : Nat) (v1 : Int32) : Option (Int32 × PH) :=
  k2 g v0 (v1 + (1 : Int32))
set_option maxHeartbeats 4000000 in
set_option maxRecDepth 100000 in
theorem bX9_stateBuilt_90 {K : HK} {E : HE} {r : Int32} {g' : PH} {k2 : PH → Nat → Int32 → Option (Int32 × PH)} (C : VC K E 2 cX9_stateBuilt RX9 (some .int)) (hk2 : ∀ (g : PH) (v0 : Nat) (v1 : Int32), k2 g v0 v1 = some (r, g') → V K E (hRm 0 0 0 0) 2 (hZ K E (some (.int r)) g' 0 0) 0 0 (kS K) g 2 [(0, .ref v0), (1, .int v1)] []) {g : PH} {v0 : Nat} {v1 : Int32} (hf : fX9_stateBuilt_90 k2 g v0 v1 = some (r, g')) : V K E (hRm 0 0 0 0) 2 (hZ K E (some (.int r)) g' 0 0) 0 0 (kS K) g 90 [(0, .ref v0), (1, .int v1)] [] := by
  unfold fX9_stateBuilt_90 at hf
  refine V.iinc (pc := 90) (v := (v1 + (1 : Int32))) (L' := [(1, .int (v1 + (1 : Int32))), (0, .ref v0)]) C dX9_stateBuilt_90 1 rfl rfl (by decide) rfl ?_
  refine V.goto (pc := 93) (t := 2) C dX9_stateBuilt_93 (by decide) ?_
  refine V.sub (L' := [(0, .ref v0), (1, .int (v1 + (1 : Int32)))]) [1, 0] rfl ?_
  exact hk2 _ _ _ hf
def fX9_stateBuilt_2  : Nat → PH → Nat → Int32 → Option (Int32 × PH)
  | 0, _, _, _ => none
  | n + 1, g, v0, v1 =>
  (getI g v0 9 29).bind fun x1 =>
  (if x1 ≤ v1 then (some ((-1 : Int32), g)) else
  ((getR g v0 9 25).bind fun p4 =>
  ((ldL g p4 ((4 : Int32) * v1)).bind fun x6 =>
  ((getR g v0 9 33).bind fun p8 =>
  ((ldL g p8 (0 : Int32)).bind fun x10 =>
  (if (lg_cmp x6 x10) = 0 then ((getR g v0 9 25).bind fun p13 =>
  ((ldL g p13 (((4 : Int32) * v1) + (1 : Int32))).bind fun x15 =>
  ((getR g v0 9 33).bind fun p17 =>
  ((ldL g p17 (1 : Int32)).bind fun x19 =>
  (if (lg_cmp x15 x19) = 0 then ((getR g v0 9 25).bind fun p22 =>
  ((ldL g p22 (((4 : Int32) * v1) + (2 : Int32))).bind fun x24 =>
  ((getR g v0 9 33).bind fun p26 =>
  ((ldL g p26 (2 : Int32)).bind fun x28 =>
  (if (lg_cmp x24 x28) = 0 then ((getR g v0 9 25).bind fun p31 =>
  ((ldL g p31 (((4 : Int32) * v1) + (3 : Int32))).bind fun x33 =>
  ((getR g v0 9 33).bind fun p35 =>
  ((ldL g p35 (3 : Int32)).bind fun x37 =>
  (if (lg_cmp x33 x37) = 0 then (some (v1, g)) else
  (fX9_stateBuilt_90 (fX9_stateBuilt_2 n) g v0 v1)))))) else
  (fX9_stateBuilt_90 (fX9_stateBuilt_2 n) g v0 v1)))))) else
  (fX9_stateBuilt_90 (fX9_stateBuilt_2 n) g v0 v1)))))) else
  (fX9_stateBuilt_90 (fX9_stateBuilt_2 n) g v0 v1)))))))
set_option maxHeartbeats 4000000 in
set_option maxRecDepth 100000 in
theorem bX9_stateBuilt_2 {K : HK} {E : HE} {r : Int32} {g' : PH}  (C : VC K E 2 cX9_stateBuilt RX9 (some .int))  : ∀ (n : Nat) (g : PH) (v0 : Nat) (v1 : Int32), fX9_stateBuilt_2  n g v0 v1 = some (r, g') → V K E (hRm 0 0 0 0) 2 (hZ K E (some (.int r)) g' 0 0) 0 0 (kS K) g 2 [(0, .ref v0), (1, .int v1)] [] := by
  intro n
  induction n with
  | zero =>
    intro g v0 v1 hf
    rw [fX9_stateBuilt_2] at hf
    cases hf
  | succ n ih =>
    intro g v0 v1 hf
    rw [fX9_stateBuilt_2] at hf
    refine V.iload_n (pc := 2) C dX9_stateBuilt_2 1 rfl ?_
    refine V.aload_n (pc := 3) C dX9_stateBuilt_3 0 rfl ?_
    replace hf := ob_some hf
    obtain ⟨x1, h2, hf⟩ := hf
    refine V.getI (pc := 4) C kX9 (k := 29) (by decide) wd_1079 h2 dX9_stateBuilt_4 ?_
    refine V.icmp_ge (pc := 7) (t := 96) C dX9_stateBuilt_7 (by decide) (fun c3 => ?_) (fun c3 => ?_)
    · replace hf := ite_t c3 hf
      refine V.iconst (pc := 96) C dX9_stateBuilt_96 (v := (-1 : Int32)) (by decide) ?_
      obtain ⟨f1, f2⟩ := fin2 hf
      clear hf
      subst f1
      subst f2
      exact V.iret (pc := 97) C rfl dX9_stateBuilt_97
    replace hf := ite_f c3 hf
    refine V.aload_n (pc := 10) C dX9_stateBuilt_10 0 rfl ?_
    replace hf := ob_some hf
    obtain ⟨p4, h5, hf⟩ := hf
    refine V.getR (pc := 11) C kX9 (k := 25) (by decide) wd_1075 h5 dX9_stateBuilt_11 ?_
    refine V.iconst (pc := 14) C dX9_stateBuilt_14 (v := (4 : Int32)) (by decide) ?_
    refine V.iload_n (pc := 15) C dX9_stateBuilt_15 1 rfl ?_
    refine V.imul (pc := 16) C dX9_stateBuilt_16 ?_
    replace hf := ob_some hf
    obtain ⟨x6, h7, hf⟩ := hf
    refine V.lald (pc := 17) C h7 dX9_stateBuilt_17 ?_
    refine V.aload_n (pc := 18) C dX9_stateBuilt_18 0 rfl ?_
    replace hf := ob_some hf
    obtain ⟨p8, h9, hf⟩ := hf
    refine V.getR (pc := 19) C kX9 (k := 33) (by decide) wd_1083 h9 dX9_stateBuilt_19 ?_
    refine V.iconst (pc := 22) C dX9_stateBuilt_22 (v := (0 : Int32)) (by decide) ?_
    replace hf := ob_some hf
    obtain ⟨x10, h11, hf⟩ := hf
    refine V.lald (pc := 23) C h11 dX9_stateBuilt_23 ?_
    refine V.lcmp (pc := 24) C dX9_stateBuilt_24 ?_
    refine V.if_ne (pc := 25) (t := 90) C dX9_stateBuilt_25 (by decide) (fun c12 => ?_) (fun c12 => ?_)
    · replace hf := ite_f c12 hf
      refine V.sub (L' := [(0, .ref v0), (1, .int v1)]) [0, 1] rfl ?_
      exact bX9_stateBuilt_90 C ih hf
    replace hf := ite_t c12 hf
    refine V.aload_n (pc := 28) C dX9_stateBuilt_28 0 rfl ?_
    replace hf := ob_some hf
    obtain ⟨p13, h14, hf⟩ := hf
    refine V.getR (pc := 29) C kX9 (k := 25) (by decide) wd_1075 h14 dX9_stateBuilt_29 ?_
    refine V.iconst (pc := 32) C dX9_stateBuilt_32 (v := (4 : Int32)) (by decide) ?_
    refine V.iload_n (pc := 33) C dX9_stateBuilt_33 1 rfl ?_
    refine V.imul (pc := 34) C dX9_stateBuilt_34 ?_
    refine V.iconst (pc := 35) C dX9_stateBuilt_35 (v := (1 : Int32)) (by decide) ?_
    refine V.iadd (pc := 36) C dX9_stateBuilt_36 ?_
    replace hf := ob_some hf
    obtain ⟨x15, h16, hf⟩ := hf
    refine V.lald (pc := 37) C h16 dX9_stateBuilt_37 ?_
    refine V.aload_n (pc := 38) C dX9_stateBuilt_38 0 rfl ?_
    replace hf := ob_some hf
    obtain ⟨p17, h18, hf⟩ := hf
    refine V.getR (pc := 39) C kX9 (k := 33) (by decide) wd_1083 h18 dX9_stateBuilt_39 ?_
    refine V.iconst (pc := 42) C dX9_stateBuilt_42 (v := (1 : Int32)) (by decide) ?_
    replace hf := ob_some hf
    obtain ⟨x19, h20, hf⟩ := hf
    refine V.lald (pc := 43) C h20 dX9_stateBuilt_43 ?_
    refine V.lcmp (pc := 44) C dX9_stateBuilt_44 ?_
    refine V.if_ne (pc := 45) (t := 90) C dX9_stateBuilt_45 (by decide) (fun c21 => ?_) (fun c21 => ?_)
    · replace hf := ite_f c21 hf
      refine V.sub (L' := [(0, .ref v0), (1, .int v1)]) [0, 1] rfl ?_
      exact bX9_stateBuilt_90 C ih hf
    replace hf := ite_t c21 hf
    refine V.aload_n (pc := 48) C dX9_stateBuilt_48 0 rfl ?_
    replace hf := ob_some hf
    obtain ⟨p22, h23, hf⟩ := hf
    refine V.getR (pc := 49) C kX9 (k := 25) (by decide) wd_1075 h23 dX9_stateBuilt_49 ?_
    refine V.iconst (pc := 52) C dX9_stateBuilt_52 (v := (4 : Int32)) (by decide) ?_
    refine V.iload_n (pc := 53) C dX9_stateBuilt_53 1 rfl ?_
    refine V.imul (pc := 54) C dX9_stateBuilt_54 ?_
    refine V.iconst (pc := 55) C dX9_stateBuilt_55 (v := (2 : Int32)) (by decide) ?_
    refine V.iadd (pc := 56) C dX9_stateBuilt_56 ?_
    replace hf := ob_some hf
    obtain ⟨x24, h25, hf⟩ := hf
    refine V.lald (pc := 57) C h25 dX9_stateBuilt_57 ?_
    refine V.aload_n (pc := 58) C dX9_stateBuilt_58 0 rfl ?_
    replace hf := ob_some hf
    obtain ⟨p26, h27, hf⟩ := hf
    refine V.getR (pc := 59) C kX9 (k := 33) (by decide) wd_1083 h27 dX9_stateBuilt_59 ?_
    refine V.iconst (pc := 62) C dX9_stateBuilt_62 (v := (2 : Int32)) (by decide) ?_
    replace hf := ob_some hf
    obtain ⟨x28, h29, hf⟩ := hf
    refine V.lald (pc := 63) C h29 dX9_stateBuilt_63 ?_
    refine V.lcmp (pc := 64) C dX9_stateBuilt_64 ?_
    refine V.if_ne (pc := 65) (t := 90) C dX9_stateBuilt_65 (by decide) (fun c30 => ?_) (fun c30 => ?_)
    · replace hf := ite_f c30 hf
      refine V.sub (L' := [(0, .ref v0), (1, .int v1)]) [0, 1] rfl ?_
      exact bX9_stateBuilt_90 C ih hf
    replace hf := ite_t c30 hf
    refine V.aload_n (pc := 68) C dX9_stateBuilt_68 0 rfl ?_
    replace hf := ob_some hf
    obtain ⟨p31, h32, hf⟩ := hf
    refine V.getR (pc := 69) C kX9 (k := 25) (by decide) wd_1075 h32 dX9_stateBuilt_69 ?_
    refine V.iconst (pc := 72) C dX9_stateBuilt_72 (v := (4 : Int32)) (by decide) ?_
    refine V.iload_n (pc := 73) C dX9_stateBuilt_73 1 rfl ?_
    refine V.imul (pc := 74) C dX9_stateBuilt_74 ?_
    refine V.iconst (pc := 75) C dX9_stateBuilt_75 (v := (3 : Int32)) (by decide) ?_
    refine V.iadd (pc := 76) C dX9_stateBuilt_76 ?_
    replace hf := ob_some hf
    obtain ⟨x33, h34, hf⟩ := hf
    refine V.lald (pc := 77) C h34 dX9_stateBuilt_77 ?_
    refine V.aload_n (pc := 78) C dX9_stateBuilt_78 0 rfl ?_
    replace hf := ob_some hf
    obtain ⟨p35, h36, hf⟩ := hf
    refine V.getR (pc := 79) C kX9 (k := 33) (by decide) wd_1083 h36 dX9_stateBuilt_79 ?_
    refine V.iconst (pc := 82) C dX9_stateBuilt_82 (v := (3 : Int32)) (by decide) ?_
    replace hf := ob_some hf
    obtain ⟨x37, h38, hf⟩ := hf
    refine V.lald (pc := 83) C h38 dX9_stateBuilt_83 ?_
    refine V.lcmp (pc := 84) C dX9_stateBuilt_84 ?_
    refine V.if_ne (pc := 85) (t := 90) C dX9_stateBuilt_85 (by decide) (fun c39 => ?_) (fun c39 => ?_)
    · replace hf := ite_f c39 hf
      refine V.sub (L' := [(0, .ref v0), (1, .int v1)]) [0, 1] rfl ?_
      exact bX9_stateBuilt_90 C ih hf
    replace hf := ite_t c39 hf
    refine V.iload_n (pc := 88) C dX9_stateBuilt_88 1 rfl ?_
    obtain ⟨f1, f2⟩ := fin2 hf
    clear hf
    subst f1
    subst f2
    exact V.iret (pc := 89) C rfl dX9_stateBuilt_89
def fX9_stateBuilt (g : PH) (a0 : Nat) : Option (Int32 × PH) :=
  okb (isO g a0 9) (fX9_stateBuilt_2 FUEL g a0 (0 : Int32))
theorem oX9_stateBuilt {g : PH} {a0 : Nat} {q : (Int32 × PH)} (h : fX9_stateBuilt g a0 = some q) : isO g a0 9 = true := by unfold fX9_stateBuilt at h; exact (okb_some h).1
theorem hyX9_stateBuilt : hMet yX9_stateBuilt RX9 cX9_stateBuilt 2 (some .int) 0 := ⟨wd_1471, wd_1470, ws_106, wd_7, rfl, by decide +kernel, by decide +kernel, by decide +kernel⟩
set_option maxHeartbeats 4000000 in
set_option maxRecDepth 100000 in
theorem mX9_stateBuilt (l : Launch) (E : HE) (sz : Nat) {g g' : PH} {a0 : Nat} {r : Int32} (hf : fX9_stateBuilt g a0 = some (r, g')) : hM l E yX9_stateBuilt cX9_stateBuilt 2 (some .int) 0 0 0 0 sz g [.ref a0] (some (.int r)) g' := by
  refine hM.of (by decide) (Nat.le_of_ble_eq_true rfl) (fun K hl C hin hsz => ?_)
  subst hl
  subst hsz
  have C : VC K E 2 cX9_stateBuilt RX9 (some .int) := C
  unfold fX9_stateBuilt at hf
  replace hf := okb_some hf
  obtain ⟨ho, hf⟩ := hf
  refine V.start (L' := [(0, .ref a0)]) rfl ?_
  refine V.iconst (pc := 0) C dX9_stateBuilt_0 (v := (0 : Int32)) (by decide) ?_
  refine V.istore_n (pc := 1) (L' := [(1, .int (0 : Int32)), (0, .ref a0)]) C dX9_stateBuilt_1 (by decide) rfl ?_
  refine V.sub (L' := [(0, .ref a0), (1, .int (0 : Int32))]) [1, 0] rfl ?_
  exact bX9_stateBuilt_2 C  _ _ _ _ hf
theorem dX9_comes_0 : decode cX9_comes 0 = .ok (.iconst 0, 1) := by decide +kernel
theorem dX9_comes_1 : decode cX9_comes 1 = .ok (.istore 4, 2) := by decide +kernel
theorem dX9_comes_3 : decode cX9_comes 3 = .ok (.iload 4, 2) := by decide +kernel
theorem dX9_comes_5 : decode cX9_comes 5 = .ok (.iconst 4, 1) := by decide +kernel
theorem dX9_comes_6 : decode cX9_comes 6 = .ok (.if_icmp .ge 30, 3) := by decide +kernel
theorem dX9_comes_9 : decode cX9_comes 9 = .ok (.aload_n 0, 1) := by decide +kernel
theorem dX9_comes_10 : decode cX9_comes 10 = .ok (.getfield 44, 3) := by decide +kernel
theorem dX9_comes_13 : decode cX9_comes 13 = .ok (.iconst 4, 1) := by decide +kernel
theorem dX9_comes_14 : decode cX9_comes 14 = .ok (.aload_n 0, 1) := by decide +kernel
theorem dX9_comes_15 : decode cX9_comes 15 = .ok (.getfield 292, 3) := by decide +kernel
theorem dX9_comes_18 : decode cX9_comes 18 = .ok (.imul, 1) := by decide +kernel
theorem dX9_comes_19 : decode cX9_comes 19 = .ok (.iload 4, 2) := by decide +kernel
theorem dX9_comes_21 : decode cX9_comes 21 = .ok (.iadd, 1) := by decide +kernel
theorem dX9_comes_22 : decode cX9_comes 22 = .ok (.aload_n 0, 1) := by decide +kernel
theorem dX9_comes_23 : decode cX9_comes 23 = .ok (.getfield 63, 3) := by decide +kernel
theorem dX9_comes_26 : decode cX9_comes 26 = .ok (.iload 4, 2) := by decide +kernel
theorem dX9_comes_28 : decode cX9_comes 28 = .ok (.laload, 1) := by decide +kernel
theorem dX9_comes_29 : decode cX9_comes 29 = .ok (.lastore, 1) := by decide +kernel
theorem dX9_comes_30 : decode cX9_comes 30 = .ok (.iinc 4 1, 3) := by decide +kernel
theorem dX9_comes_33 : decode cX9_comes 33 = .ok (.goto (-30), 3) := by decide +kernel
theorem dX9_comes_36 : decode cX9_comes 36 = .ok (.aload_n 0, 1) := by decide +kernel
theorem dX9_comes_37 : decode cX9_comes 37 = .ok (.getfield 48, 3) := by decide +kernel
theorem dX9_comes_40 : decode cX9_comes 40 = .ok (.aload_n 0, 1) := by decide +kernel
theorem dX9_comes_41 : decode cX9_comes 41 = .ok (.getfield 292, 3) := by decide +kernel
theorem dX9_comes_44 : decode cX9_comes 44 = .ok (.iload_n 1, 1) := by decide +kernel
theorem dX9_comes_45 : decode cX9_comes 45 = .ok (.iastore, 1) := by decide +kernel
theorem dX9_comes_46 : decode cX9_comes 46 = .ok (.aload_n 0, 1) := by decide +kernel
theorem dX9_comes_47 : decode cX9_comes 47 = .ok (.getfield 51, 3) := by decide +kernel
theorem dX9_comes_50 : decode cX9_comes 50 = .ok (.aload_n 0, 1) := by decide +kernel
theorem dX9_comes_51 : decode cX9_comes 51 = .ok (.getfield 292, 3) := by decide +kernel
theorem dX9_comes_54 : decode cX9_comes 54 = .ok (.iload_n 2, 1) := by decide +kernel
theorem dX9_comes_55 : decode cX9_comes 55 = .ok (.iastore, 1) := by decide +kernel
theorem dX9_comes_56 : decode cX9_comes 56 = .ok (.aload_n 0, 1) := by decide +kernel
theorem dX9_comes_57 : decode cX9_comes 57 = .ok (.getfield 54, 3) := by decide +kernel
theorem dX9_comes_60 : decode cX9_comes 60 = .ok (.aload_n 0, 1) := by decide +kernel
theorem dX9_comes_61 : decode cX9_comes 61 = .ok (.getfield 292, 3) := by decide +kernel
theorem dX9_comes_64 : decode cX9_comes 64 = .ok (.iload_n 3, 1) := by decide +kernel
theorem dX9_comes_65 : decode cX9_comes 65 = .ok (.iastore, 1) := by decide +kernel
theorem dX9_comes_66 : decode cX9_comes 66 = .ok (.aload_n 0, 1) := by decide +kernel
theorem dX9_comes_67 : decode cX9_comes 67 = .ok (.dup, 1) := by decide +kernel
theorem dX9_comes_68 : decode cX9_comes 68 = .ok (.getfield 292, 3) := by decide +kernel
theorem dX9_comes_71 : decode cX9_comes 71 = .ok (.iconst 1, 1) := by decide +kernel
theorem dX9_comes_72 : decode cX9_comes 72 = .ok (.iadd, 1) := by decide +kernel
theorem dX9_comes_73 : decode cX9_comes 73 = .ok (.putfield 292, 3) := by decide +kernel
theorem dX9_comes_76 : decode cX9_comes 76 = .ok (.return_, 1) := by decide +kernel
def fX9_comes_3  : Nat → PH → Nat → Int32 → Int32 → Int32 → Int32 → Option (Unit × PH)
  | 0, _, _, _, _, _, _ => none
  | n + 1, g, v0, v1, v2, v3, v4 =>
  if (4 : Int32) ≤ v4 then ((getR g v0 9 26).bind fun p2 =>
  ((getI g v0 9 29).bind fun x4 =>
  ((stI g p2 0 x4 v1).bind fun g6 =>
  ((getR g6 v0 9 27).bind fun p8 =>
  ((getI g6 v0 9 29).bind fun x10 =>
  ((stI g6 p8 0 x10 v2).bind fun g12 =>
  ((getR g12 v0 9 28).bind fun p14 =>
  ((getI g12 v0 9 29).bind fun x16 =>
  ((stI g12 p14 0 x16 v3).bind fun g18 =>
  ((getI g18 v0 9 29).bind fun x20 =>
  ((putV g18 v0 9 29 (.int (x20 + (1 : Int32)))).bind fun g22 =>
  (some ((), g22))))))))))))) else
  ((getR g v0 9 25).bind fun p24 =>
  ((getI g v0 9 29).bind fun x26 =>
  ((getR g v0 9 33).bind fun p28 =>
  ((ldL g p28 v4).bind fun x30 =>
  ((stL g p24 (((4 : Int32) * x26) + v4) x30).bind fun g32 =>
  (fX9_comes_3 n g32 v0 v1 v2 v3 (v4 + (1 : Int32))))))))
set_option maxHeartbeats 4000000 in
set_option maxRecDepth 100000 in
theorem bX9_comes_3 {K : HK} {E : HE} {r : Unit} {g' : PH}  (C : VC K E 5 cX9_comes RX9 none)  : ∀ (n : Nat) (g : PH) (v0 : Nat) (v1 : Int32) (v2 : Int32) (v3 : Int32) (v4 : Int32), fX9_comes_3  n g v0 v1 v2 v3 v4 = some (r, g') → V K E (hRm 0 0 0 0) 5 (hZ K E none g' 0 0) 0 0 (kS K) g 3 [(0, .ref v0), (1, .int v1), (2, .int v2), (3, .int v3), (4, .int v4)] [] := by
  intro n
  induction n with
  | zero =>
    intro g v0 v1 v2 v3 v4 hf
    rw [fX9_comes_3] at hf
    cases hf
  | succ n ih =>
    intro g v0 v1 v2 v3 v4 hf
    rw [fX9_comes_3] at hf
    refine V.iload (pc := 3) C dX9_comes_3 4 rfl ?_
    refine V.iconst (pc := 5) C dX9_comes_5 (v := (4 : Int32)) (by decide) ?_
    refine V.icmp_ge (pc := 6) (t := 36) C dX9_comes_6 (by decide) (fun c1 => ?_) (fun c1 => ?_)
    · replace hf := ite_t c1 hf
      refine V.aload_n (pc := 36) C dX9_comes_36 0 rfl ?_
      replace hf := ob_some hf
      obtain ⟨p2, h3, hf⟩ := hf
      refine V.getR (pc := 37) C kX9 (k := 26) (by decide) wd_1076 h3 dX9_comes_37 ?_
      refine V.aload_n (pc := 40) C dX9_comes_40 0 rfl ?_
      replace hf := ob_some hf
      obtain ⟨x4, h5, hf⟩ := hf
      refine V.getI (pc := 41) C kX9 (k := 29) (by decide) wd_1079 h5 dX9_comes_41 ?_
      refine V.iload_n (pc := 44) C dX9_comes_44 1 rfl ?_
      replace hf := ob_some hf
      obtain ⟨g6, h7, hf⟩ := hf
      refine V.iast (pc := 45) C h7 dX9_comes_45 ?_
      refine V.aload_n (pc := 46) C dX9_comes_46 0 rfl ?_
      replace hf := ob_some hf
      obtain ⟨p8, h9, hf⟩ := hf
      refine V.getR (pc := 47) C kX9 (k := 27) (by decide) wd_1077 h9 dX9_comes_47 ?_
      refine V.aload_n (pc := 50) C dX9_comes_50 0 rfl ?_
      replace hf := ob_some hf
      obtain ⟨x10, h11, hf⟩ := hf
      refine V.getI (pc := 51) C kX9 (k := 29) (by decide) wd_1079 h11 dX9_comes_51 ?_
      refine V.iload_n (pc := 54) C dX9_comes_54 2 rfl ?_
      replace hf := ob_some hf
      obtain ⟨g12, h13, hf⟩ := hf
      refine V.iast (pc := 55) C h13 dX9_comes_55 ?_
      refine V.aload_n (pc := 56) C dX9_comes_56 0 rfl ?_
      replace hf := ob_some hf
      obtain ⟨p14, h15, hf⟩ := hf
      refine V.getR (pc := 57) C kX9 (k := 28) (by decide) wd_1078 h15 dX9_comes_57 ?_
      refine V.aload_n (pc := 60) C dX9_comes_60 0 rfl ?_
      replace hf := ob_some hf
      obtain ⟨x16, h17, hf⟩ := hf
      refine V.getI (pc := 61) C kX9 (k := 29) (by decide) wd_1079 h17 dX9_comes_61 ?_
      refine V.iload_n (pc := 64) C dX9_comes_64 3 rfl ?_
      replace hf := ob_some hf
      obtain ⟨g18, h19, hf⟩ := hf
      refine V.iast (pc := 65) C h19 dX9_comes_65 ?_
      refine V.aload_n (pc := 66) C dX9_comes_66 0 rfl ?_
      refine V.dup (pc := 67) C dX9_comes_67 rfl ?_
      replace hf := ob_some hf
      obtain ⟨x20, h21, hf⟩ := hf
      refine V.getI (pc := 68) C kX9 (k := 29) (by decide) wd_1079 h21 dX9_comes_68 ?_
      refine V.iconst (pc := 71) C dX9_comes_71 (v := (1 : Int32)) (by decide) ?_
      refine V.iadd (pc := 72) C dX9_comes_72 ?_
      replace hf := ob_some hf
      obtain ⟨g22, h23, hf⟩ := hf
      refine V.putX (pc := 73) C kX9 (k := 29) (by decide) wd_1079 rfl rfl rfl h23 dX9_comes_73 ?_
      obtain ⟨f1, f2⟩ := fin2 hf
      clear hf
      subst f1
      subst f2
      exact V.vret (pc := 76) C rfl dX9_comes_76
    replace hf := ite_f c1 hf
    refine V.aload_n (pc := 9) C dX9_comes_9 0 rfl ?_
    replace hf := ob_some hf
    obtain ⟨p24, h25, hf⟩ := hf
    refine V.getR (pc := 10) C kX9 (k := 25) (by decide) wd_1075 h25 dX9_comes_10 ?_
    refine V.iconst (pc := 13) C dX9_comes_13 (v := (4 : Int32)) (by decide) ?_
    refine V.aload_n (pc := 14) C dX9_comes_14 0 rfl ?_
    replace hf := ob_some hf
    obtain ⟨x26, h27, hf⟩ := hf
    refine V.getI (pc := 15) C kX9 (k := 29) (by decide) wd_1079 h27 dX9_comes_15 ?_
    refine V.imul (pc := 18) C dX9_comes_18 ?_
    refine V.iload (pc := 19) C dX9_comes_19 4 rfl ?_
    refine V.iadd (pc := 21) C dX9_comes_21 ?_
    refine V.aload_n (pc := 22) C dX9_comes_22 0 rfl ?_
    replace hf := ob_some hf
    obtain ⟨p28, h29, hf⟩ := hf
    refine V.getR (pc := 23) C kX9 (k := 33) (by decide) wd_1083 h29 dX9_comes_23 ?_
    refine V.iload (pc := 26) C dX9_comes_26 4 rfl ?_
    replace hf := ob_some hf
    obtain ⟨x30, h31, hf⟩ := hf
    refine V.lald (pc := 28) C h31 dX9_comes_28 ?_
    replace hf := ob_some hf
    obtain ⟨g32, h33, hf⟩ := hf
    refine V.last (pc := 29) C h33 dX9_comes_29 ?_
    refine V.iinc (pc := 30) (v := (v4 + (1 : Int32))) (L' := [(4, .int (v4 + (1 : Int32))), (0, .ref v0), (1, .int v1), (2, .int v2), (3, .int v3)]) C dX9_comes_30 4 rfl rfl (by decide) rfl ?_
    refine V.goto (pc := 33) (t := 3) C dX9_comes_33 (by decide) ?_
    refine V.sub (L' := [(0, .ref v0), (1, .int v1), (2, .int v2), (3, .int v3), (4, .int (v4 + (1 : Int32)))]) [1, 2, 3, 4, 0] rfl ?_
    exact ih _ _ _ _ _ _ hf
def fX9_comes (g : PH) (a0 : Nat) (a1 : Int32) (a2 : Int32) (a3 : Int32) : Option (Unit × PH) :=
  okb (isO g a0 9) (fX9_comes_3 FUEL g a0 a1 a2 a3 (0 : Int32))
theorem oX9_comes {g : PH} {a0 : Nat} {a1 : Int32} {a2 : Int32} {a3 : Int32} {q : (Unit × PH)} (h : fX9_comes g a0 a1 a2 a3 = some q) : isO g a0 9 = true := by unfold fX9_comes at h; exact (okb_some h).1
theorem hyX9_comes : hMet yX9_comes RX9 cX9_comes 5 none 3 := ⟨wd_1444, wd_1443, ws_100, wd_7, rfl, by decide +kernel, by decide +kernel, by decide +kernel⟩
set_option maxHeartbeats 4000000 in
set_option maxRecDepth 100000 in
theorem mX9_comes (l : Launch) (E : HE) (sz : Nat) {g g' : PH} {a0 : Nat} {a1 : Int32} {a2 : Int32} {a3 : Int32} {r : Unit} (hf : fX9_comes g a0 a1 a2 a3 = some (r, g')) : hM l E yX9_comes cX9_comes 5 none 0 0 0 0 sz g [.ref a0, .int a1, .int a2, .int a3] none g' := by
  refine hM.of (by decide) (Nat.le_of_ble_eq_true rfl) (fun K hl C hin hsz => ?_)
  subst hl
  subst hsz
  have C : VC K E 5 cX9_comes RX9 none := C
  unfold fX9_comes at hf
  replace hf := okb_some hf
  obtain ⟨ho, hf⟩ := hf
  refine V.start (L' := [(0, .ref a0), (1, .int a1), (2, .int a2), (3, .int a3)]) rfl ?_
  refine V.iconst (pc := 0) C dX9_comes_0 (v := (0 : Int32)) (by decide) ?_
  refine V.istore (pc := 1) (L' := [(4, .int (0 : Int32)), (0, .ref a0), (1, .int a1), (2, .int a2), (3, .int a3)]) C dX9_comes_1 (by decide) rfl ?_
  refine V.sub (L' := [(0, .ref a0), (1, .int a1), (2, .int a2), (3, .int a3), (4, .int (0 : Int32))]) [1, 2, 3, 4, 0] rfl ?_
  exact bX9_comes_3 C  _ _ _ _ _ _ _ hf
theorem dX9_isAllFailed_0 : decode cX9_isAllFailed 0 = .ok (.iconst 1, 1) := by decide +kernel
theorem dX9_isAllFailed_1 : decode cX9_isAllFailed 1 = .ok (.istore_n 1, 1) := by decide +kernel
theorem dX9_isAllFailed_2 : decode cX9_isAllFailed 2 = .ok (.iload_n 1, 1) := by decide +kernel
theorem dX9_isAllFailed_3 : decode cX9_isAllFailed 3 = .ok (.aload_n 0, 1) := by decide +kernel
theorem dX9_isAllFailed_4 : decode cX9_isAllFailed 4 = .ok (.getfield 295, 3) := by decide +kernel
theorem dX9_isAllFailed_7 : decode cX9_isAllFailed 7 = .ok (.if_icmp .gt 38, 3) := by decide +kernel
theorem dX9_isAllFailed_10 : decode cX9_isAllFailed 10 = .ok (.aload_n 0, 1) := by decide +kernel
theorem dX9_isAllFailed_11 : decode cX9_isAllFailed 11 = .ok (.getfield 63, 3) := by decide +kernel
theorem dX9_isAllFailed_14 : decode cX9_isAllFailed 14 = .ok (.iload_n 1, 1) := by decide +kernel
theorem dX9_isAllFailed_15 : decode cX9_isAllFailed 15 = .ok (.bipush 20, 2) := by decide +kernel
theorem dX9_isAllFailed_17 : decode cX9_isAllFailed 17 = .ok (.idiv, 1) := by decide +kernel
theorem dX9_isAllFailed_18 : decode cX9_isAllFailed 18 = .ok (.laload, 1) := by decide +kernel
theorem dX9_isAllFailed_19 : decode cX9_isAllFailed 19 = .ok (.iconst 3, 1) := by decide +kernel
theorem dX9_isAllFailed_20 : decode cX9_isAllFailed 20 = .ok (.iload_n 1, 1) := by decide +kernel
theorem dX9_isAllFailed_21 : decode cX9_isAllFailed 21 = .ok (.bipush 20, 2) := by decide +kernel
theorem dX9_isAllFailed_23 : decode cX9_isAllFailed 23 = .ok (.irem, 1) := by decide +kernel
theorem dX9_isAllFailed_24 : decode cX9_isAllFailed 24 = .ok (.imul, 1) := by decide +kernel
theorem dX9_isAllFailed_25 : decode cX9_isAllFailed 25 = .ok (.lshr, 1) := by decide +kernel
theorem dX9_isAllFailed_26 : decode cX9_isAllFailed 26 = .ok (.ldc2_w 268, 3) := by decide +kernel
theorem dX9_isAllFailed_29 : decode cX9_isAllFailed 29 = .ok (.land, 1) := by decide +kernel
theorem dX9_isAllFailed_30 : decode cX9_isAllFailed 30 = .ok (.ldc2_w 266, 3) := by decide +kernel
theorem dX9_isAllFailed_33 : decode cX9_isAllFailed 33 = .ok (.lcmp, 1) := by decide +kernel
theorem dX9_isAllFailed_34 : decode cX9_isAllFailed 34 = .ok (.ifCond .eq 5, 3) := by decide +kernel
theorem dX9_isAllFailed_37 : decode cX9_isAllFailed 37 = .ok (.iconst 0, 1) := by decide +kernel
theorem dX9_isAllFailed_38 : decode cX9_isAllFailed 38 = .ok (.ireturn, 1) := by decide +kernel
theorem dX9_isAllFailed_39 : decode cX9_isAllFailed 39 = .ok (.iinc 1 1, 3) := by decide +kernel
theorem dX9_isAllFailed_42 : decode cX9_isAllFailed 42 = .ok (.goto (-40), 3) := by decide +kernel
theorem dX9_isAllFailed_45 : decode cX9_isAllFailed 45 = .ok (.iconst 1, 1) := by decide +kernel
theorem dX9_isAllFailed_46 : decode cX9_isAllFailed 46 = .ok (.ireturn, 1) := by decide +kernel
def fX9_isAllFailed_2  : Nat → PH → Nat → Int32 → Option (Int32 × PH)
  | 0, _, _, _ => none
  | n + 1, g, v0, v1 =>
  (getI g v0 9 30).bind fun x1 =>
  (if x1 < v1 then (some ((1 : Int32), g)) else
  ((getR g v0 9 33).bind fun p4 =>
  ((ldL g p4 (v1 / (20 : Int32))).bind fun x6 =>
  (if (lg_cmp ((x6 >>> (((3 : Int32) * (v1 - v1 / (20 : Int32) * (20 : Int32))).toInt64 &&& 63)) &&& (7 : Int64)) (4 : Int64)) = 0 then (fX9_isAllFailed_2 n g v0 (v1 + (1 : Int32))) else
  (some ((0 : Int32), g))))))
set_option maxHeartbeats 4000000 in
set_option maxRecDepth 100000 in
theorem bX9_isAllFailed_2 {K : HK} {E : HE} {r : Int32} {g' : PH}  (C : VC K E 2 cX9_isAllFailed RX9 (some .boolean))  : ∀ (n : Nat) (g : PH) (v0 : Nat) (v1 : Int32), fX9_isAllFailed_2  n g v0 v1 = some (r, g') → V K E (hRm 0 0 0 0) 2 (hZ K E (some (.int r)) g' 0 0) 0 0 (kS K) g 2 [(0, .ref v0), (1, .int v1)] [] := by
  intro n
  induction n with
  | zero =>
    intro g v0 v1 hf
    rw [fX9_isAllFailed_2] at hf
    cases hf
  | succ n ih =>
    intro g v0 v1 hf
    rw [fX9_isAllFailed_2] at hf
    refine V.iload_n (pc := 2) C dX9_isAllFailed_2 1 rfl ?_
    refine V.aload_n (pc := 3) C dX9_isAllFailed_3 0 rfl ?_
    replace hf := ob_some hf
    obtain ⟨x1, h2, hf⟩ := hf
    refine V.getI (pc := 4) C kX9 (k := 30) (by decide) wd_1080 h2 dX9_isAllFailed_4 ?_
    refine V.icmp_gt (pc := 7) (t := 45) C dX9_isAllFailed_7 (by decide) (fun c3 => ?_) (fun c3 => ?_)
    · replace hf := ite_t c3 hf
      refine V.iconst (pc := 45) C dX9_isAllFailed_45 (v := (1 : Int32)) (by decide) ?_
      obtain ⟨f1, f2⟩ := fin2 hf
      clear hf
      subst f1
      subst f2
      exact V.zret (pc := 46) C rfl rfl dX9_isAllFailed_46
    replace hf := ite_f c3 hf
    refine V.aload_n (pc := 10) C dX9_isAllFailed_10 0 rfl ?_
    replace hf := ob_some hf
    obtain ⟨p4, h5, hf⟩ := hf
    refine V.getR (pc := 11) C kX9 (k := 33) (by decide) wd_1083 h5 dX9_isAllFailed_11 ?_
    refine V.iload_n (pc := 14) C dX9_isAllFailed_14 1 rfl ?_
    refine V.bipush (pc := 15) C dX9_isAllFailed_15 (v := (20 : Int32)) (by decide) ?_
    refine V.idiv (pc := 17) C dX9_isAllFailed_17 (by decide) ?_
    replace hf := ob_some hf
    obtain ⟨x6, h7, hf⟩ := hf
    refine V.lald (pc := 18) C h7 dX9_isAllFailed_18 ?_
    refine V.iconst (pc := 19) C dX9_isAllFailed_19 (v := (3 : Int32)) (by decide) ?_
    refine V.iload_n (pc := 20) C dX9_isAllFailed_20 1 rfl ?_
    refine V.bipush (pc := 21) C dX9_isAllFailed_21 (v := (20 : Int32)) (by decide) ?_
    refine V.irem (pc := 23) C dX9_isAllFailed_23 (by decide) ?_
    refine V.imul (pc := 24) C dX9_isAllFailed_24 ?_
    refine V.lshr (pc := 25) C dX9_isAllFailed_25 ?_
    refine V.ldc2 (pc := 26) C wd_1304 dX9_isAllFailed_26 ?_
    refine V.land (pc := 29) C dX9_isAllFailed_29 ?_
    refine V.ldc2 (pc := 30) C wd_1291 dX9_isAllFailed_30 ?_
    refine V.lcmp (pc := 33) C dX9_isAllFailed_33 ?_
    refine V.if_eq (pc := 34) (t := 39) C dX9_isAllFailed_34 (by decide) (fun c8 => ?_) (fun c8 => ?_)
    · replace hf := ite_t c8 hf
      refine V.iinc (pc := 39) (v := (v1 + (1 : Int32))) (L' := [(1, .int (v1 + (1 : Int32))), (0, .ref v0)]) C dX9_isAllFailed_39 1 rfl rfl (by decide) rfl ?_
      refine V.goto (pc := 42) (t := 2) C dX9_isAllFailed_42 (by decide) ?_
      refine V.sub (L' := [(0, .ref v0), (1, .int (v1 + (1 : Int32)))]) [1, 0] rfl ?_
      exact ih _ _ _ hf
    replace hf := ite_f c8 hf
    refine V.iconst (pc := 37) C dX9_isAllFailed_37 (v := (0 : Int32)) (by decide) ?_
    obtain ⟨f1, f2⟩ := fin2 hf
    clear hf
    subst f1
    subst f2
    exact V.zret (pc := 38) C rfl rfl dX9_isAllFailed_38
def fX9_isAllFailed (g : PH) (a0 : Nat) : Option (Int32 × PH) :=
  okb (isO g a0 9) (fX9_isAllFailed_2 FUEL g a0 (1 : Int32))
theorem oX9_isAllFailed {g : PH} {a0 : Nat} {q : (Int32 × PH)} (h : fX9_isAllFailed g a0 = some q) : isO g a0 9 = true := by unfold fX9_isAllFailed at h; exact (okb_some h).1
theorem hyX9_isAllFailed : hMet yX9_isAllFailed RX9 cX9_isAllFailed 2 (some .boolean) 0 := ⟨wd_1475, wd_1474, ws_107, wd_7, rfl, by decide +kernel, by decide +kernel, by decide +kernel⟩
set_option maxHeartbeats 4000000 in
set_option maxRecDepth 100000 in
theorem mX9_isAllFailed (l : Launch) (E : HE) (sz : Nat) {g g' : PH} {a0 : Nat} {r : Int32} (hf : fX9_isAllFailed g a0 = some (r, g')) : hM l E yX9_isAllFailed cX9_isAllFailed 2 (some .boolean) 0 0 0 0 sz g [.ref a0] (some (.int r)) g' := by
  refine hM.of (by decide) (Nat.le_of_ble_eq_true rfl) (fun K hl C hin hsz => ?_)
  subst hl
  subst hsz
  have C : VC K E 2 cX9_isAllFailed RX9 (some .boolean) := C
  unfold fX9_isAllFailed at hf
  replace hf := okb_some hf
  obtain ⟨ho, hf⟩ := hf
  refine V.start (L' := [(0, .ref a0)]) rfl ?_
  refine V.iconst (pc := 0) C dX9_isAllFailed_0 (v := (1 : Int32)) (by decide) ?_
  refine V.istore_n (pc := 1) (L' := [(1, .int (1 : Int32)), (0, .ref a0)]) C dX9_isAllFailed_1 (by decide) rfl ?_
  refine V.sub (L' := [(0, .ref a0), (1, .int (1 : Int32))]) [1, 0] rfl ?_
  exact bX9_isAllFailed_2 C  _ _ _ _ hf
theorem dX9_triesMachine_0 : decode cX9_triesMachine 0 = .ok (.aload_n 0, 1) := by decide +kernel
theorem dX9_triesMachine_1 : decode cX9_triesMachine 1 = .ok (.aload_n 0, 1) := by decide +kernel
theorem dX9_triesMachine_2 : decode cX9_triesMachine 2 = .ok (.getfield 57, 3) := by decide +kernel
theorem dX9_triesMachine_5 : decode cX9_triesMachine 5 = .ok (.iload_n 1, 1) := by decide +kernel
theorem dX9_triesMachine_6 : decode cX9_triesMachine 6 = .ok (.iaload, 1) := by decide +kernel
theorem dX9_triesMachine_7 : decode cX9_triesMachine 7 = .ok (.invokevirtual 237, 3) := by decide +kernel
theorem dX9_triesMachine_10 : decode cX9_triesMachine 10 = .ok (.istore_n 3, 1) := by decide +kernel
theorem dX9_triesMachine_11 : decode cX9_triesMachine 11 = .ok (.aload_n 0, 1) := by decide +kernel
theorem dX9_triesMachine_12 : decode cX9_triesMachine 12 = .ok (.aload_n 0, 1) := by decide +kernel
theorem dX9_triesMachine_13 : decode cX9_triesMachine 13 = .ok (.getfield 57, 3) := by decide +kernel
theorem dX9_triesMachine_16 : decode cX9_triesMachine 16 = .ok (.iload_n 1, 1) := by decide +kernel
theorem dX9_triesMachine_17 : decode cX9_triesMachine 17 = .ok (.iaload, 1) := by decide +kernel
theorem dX9_triesMachine_18 : decode cX9_triesMachine 18 = .ok (.iload_n 3, 1) := by decide +kernel
theorem dX9_triesMachine_19 : decode cX9_triesMachine 19 = .ok (.ifCond .eq 12, 3) := by decide +kernel
theorem dX9_triesMachine_22 : decode cX9_triesMachine 22 = .ok (.aload_n 0, 1) := by decide +kernel
theorem dX9_triesMachine_23 : decode cX9_triesMachine 23 = .ok (.getfield 60, 3) := by decide +kernel
theorem dX9_triesMachine_26 : decode cX9_triesMachine 26 = .ok (.iload_n 1, 1) := by decide +kernel
theorem dX9_triesMachine_27 : decode cX9_triesMachine 27 = .ok (.iaload, 1) := by decide +kernel
theorem dX9_triesMachine_28 : decode cX9_triesMachine 28 = .ok (.goto 4, 3) := by decide +kernel
theorem dX9_triesMachine_31 : decode cX9_triesMachine 31 = .ok (.iconst (-1), 1) := by decide +kernel
theorem dX9_triesMachine_32 : decode cX9_triesMachine 32 = .ok (.iload_n 3, 1) := by decide +kernel
theorem dX9_triesMachine_33 : decode cX9_triesMachine 33 = .ok (.ifCond .eq 14, 3) := by decide +kernel
theorem dX9_triesMachine_36 : decode cX9_triesMachine 36 = .ok (.iconst 1, 1) := by decide +kernel
theorem dX9_triesMachine_37 : decode cX9_triesMachine 37 = .ok (.aload_n 0, 1) := by decide +kernel
theorem dX9_triesMachine_38 : decode cX9_triesMachine 38 = .ok (.getfield 60, 3) := by decide +kernel
theorem dX9_triesMachine_41 : decode cX9_triesMachine 41 = .ok (.iload_n 1, 1) := by decide +kernel
theorem dX9_triesMachine_42 : decode cX9_triesMachine 42 = .ok (.iaload, 1) := by decide +kernel
theorem dX9_triesMachine_43 : decode cX9_triesMachine 43 = .ok (.isub, 1) := by decide +kernel
theorem dX9_triesMachine_44 : decode cX9_triesMachine 44 = .ok (.goto 9, 3) := by decide +kernel
theorem dX9_triesMachine_47 : decode cX9_triesMachine 47 = .ok (.aload_n 0, 1) := by decide +kernel
theorem dX9_triesMachine_48 : decode cX9_triesMachine 48 = .ok (.getfield 60, 3) := by decide +kernel
theorem dX9_triesMachine_51 : decode cX9_triesMachine 51 = .ok (.iload_n 1, 1) := by decide +kernel
theorem dX9_triesMachine_52 : decode cX9_triesMachine 52 = .ok (.iaload, 1) := by decide +kernel
theorem dX9_triesMachine_53 : decode cX9_triesMachine 53 = .ok (.iload_n 2, 1) := by decide +kernel
theorem dX9_triesMachine_54 : decode cX9_triesMachine 54 = .ok (.invokevirtual 249, 3) := by decide +kernel
theorem dX9_triesMachine_57 : decode cX9_triesMachine 57 = .ok (.return_, 1) := by decide +kernel
def fX9_triesMachine_53  (g : PH) (v2 : Int32) (s0 : Int32) (s1 : Int32) (s2 : Int32) (s3 : Nat) : Option (Unit × PH) :=
  (fX9_tries g s3 s2 s1 s0 v2).bind fun q1 =>
  (some ((), q1.2))
set_option maxHeartbeats 4000000 in
set_option maxRecDepth 100000 in
theorem bX9_triesMachine_53 {K : HK} {E : HE} {r : Unit} {g' : PH}  (C : VC K E 4 cX9_triesMachine RX9 none)  {g : PH} {v2 : Int32} {s0 : Int32} {s1 : Int32} {s2 : Int32} {s3 : Nat} (hf : fX9_triesMachine_53  g v2 s0 s1 s2 s3 = some (r, g')) : V K E (hRm 4 94 0 0) 4 (hZ K E none g' 0 0) 0 0 (kS K) g 53 [(2, .int v2)] [.int s0, .int s1, .int s2, .ref s3] := by
  unfold fX9_triesMachine_53 at hf
  refine V.iload_n (pc := 53) C dX9_triesMachine_53 0 rfl ?_
  replace hf := ob_some hf
  obtain ⟨q1, h2, hf⟩ := hf
  refine V.callV0v (pc := 54) C hyX9_tries wd_1325 (mX9_tries (r := q1.1) (g' := q1.2) K.2.1 E (kS K) h2) rfl rfl rfl (oX9_tries h2) ⟨Nat.le_of_ble_eq_true rfl, Nat.le_of_ble_eq_true rfl⟩ (Nat.le_of_ble_eq_true rfl) dX9_triesMachine_54 ⟨Nat.zero_le _, Nat.zero_le _⟩ rfl ?_
  obtain ⟨f1, f2⟩ := fin2 hf
  clear hf
  subst f1
  subst f2
  exact V.vret (pc := 57) C rfl dX9_triesMachine_57
def fX9_triesMachine_32  (g : PH) (v0 : Nat) (v1 : Int32) (v2 : Int32) (v3 : Int32) (s0 : Int32) (s1 : Int32) (s2 : Nat) : Option (Unit × PH) :=
  if v3 = 0 then ((getR g v0 9 32).bind fun p2 =>
  ((ldI g p2 0 v1).bind fun x4 =>
  (fX9_triesMachine_53 g v2 x4 s0 s1 s2))) else
  ((getR g v0 9 32).bind fun p6 =>
  ((ldI g p6 0 v1).bind fun x8 =>
  (fX9_triesMachine_53 g v2 ((1 : Int32) - x8) s0 s1 s2)))
set_option maxHeartbeats 4000000 in
set_option maxRecDepth 100000 in
theorem bX9_triesMachine_32 {K : HK} {E : HE} {r : Unit} {g' : PH}  (C : VC K E 4 cX9_triesMachine RX9 none)  {g : PH} {v0 : Nat} {v1 : Int32} {v2 : Int32} {v3 : Int32} {s0 : Int32} {s1 : Int32} {s2 : Nat} (hf : fX9_triesMachine_32  g v0 v1 v2 v3 s0 s1 s2 = some (r, g')) : V K E (hRm 4 94 0 0) 4 (hZ K E none g' 0 0) 0 0 (kS K) g 32 [(0, .ref v0), (1, .int v1), (2, .int v2), (3, .int v3)] [.int s0, .int s1, .ref s2] := by
  unfold fX9_triesMachine_32 at hf
  refine V.iload_n (pc := 32) C dX9_triesMachine_32 3 rfl ?_
  refine V.if_eq (pc := 33) (t := 47) C dX9_triesMachine_33 (by decide) (fun c1 => ?_) (fun c1 => ?_)
  · replace hf := ite_t c1 hf
    refine V.aload_n (pc := 47) C dX9_triesMachine_47 0 rfl ?_
    replace hf := ob_some hf
    obtain ⟨p2, h3, hf⟩ := hf
    refine V.getR (pc := 48) C kX9 (k := 32) (by decide) wd_1082 h3 dX9_triesMachine_48 ?_
    refine V.iload_n (pc := 51) C dX9_triesMachine_51 1 rfl ?_
    replace hf := ob_some hf
    obtain ⟨x4, h5, hf⟩ := hf
    refine V.iald (pc := 52) C h5 dX9_triesMachine_52 ?_
    refine V.sub (L' := [(2, .int v2)]) [2] rfl ?_
    exact bX9_triesMachine_53 C  hf
  replace hf := ite_f c1 hf
  refine V.iconst (pc := 36) C dX9_triesMachine_36 (v := (1 : Int32)) (by decide) ?_
  refine V.aload_n (pc := 37) C dX9_triesMachine_37 0 rfl ?_
  replace hf := ob_some hf
  obtain ⟨p6, h7, hf⟩ := hf
  refine V.getR (pc := 38) C kX9 (k := 32) (by decide) wd_1082 h7 dX9_triesMachine_38 ?_
  refine V.iload_n (pc := 41) C dX9_triesMachine_41 1 rfl ?_
  replace hf := ob_some hf
  obtain ⟨x8, h9, hf⟩ := hf
  refine V.iald (pc := 42) C h9 dX9_triesMachine_42 ?_
  refine V.isub (pc := 43) C dX9_triesMachine_43 ?_
  refine V.goto (pc := 44) (t := 53) C dX9_triesMachine_44 (by decide) ?_
  refine V.sub (L' := [(2, .int v2)]) [2] rfl ?_
  exact bX9_triesMachine_53 C  hf
def fX9_triesMachine (g : PH) (a0 : Nat) (a1 : Int32) (a2 : Int32) : Option (Unit × PH) :=
  okb (isO g a0 9) ((getR g a0 9 31).bind fun p1 =>
  ((ldI g p1 0 a1).bind fun x3 =>
  ((fX9_isPair g a0 x3).bind fun q5 =>
  ((getR q5.2 a0 9 31).bind fun p7 =>
  ((ldI q5.2 p7 0 a1).bind fun x9 =>
  (if q5.1 = 0 then (fX9_triesMachine_32 q5.2 a0 a1 a2 q5.1 (-1 : Int32) x9 a0) else
  ((getR q5.2 a0 9 32).bind fun p12 =>
  ((ldI q5.2 p12 0 a1).bind fun x14 =>
  (fX9_triesMachine_32 q5.2 a0 a1 a2 q5.1 x14 x9 a0)))))))))
theorem oX9_triesMachine {g : PH} {a0 : Nat} {a1 : Int32} {a2 : Int32} {q : (Unit × PH)} (h : fX9_triesMachine g a0 a1 a2 = some q) : isO g a0 9 = true := by unfold fX9_triesMachine at h; exact (okb_some h).1
theorem hyX9_triesMachine : hMet yX9_triesMachine RX9 cX9_triesMachine 4 none 2 := ⟨wd_1440, wd_1439, ws_99, wd_7, rfl, by decide +kernel, by decide +kernel, by decide +kernel⟩
set_option maxHeartbeats 4000000 in
set_option maxRecDepth 100000 in
theorem mX9_triesMachine (l : Launch) (E : HE) (sz : Nat) {g g' : PH} {a0 : Nat} {a1 : Int32} {a2 : Int32} {r : Unit} (hf : fX9_triesMachine g a0 a1 a2 = some (r, g')) : hM l E yX9_triesMachine cX9_triesMachine 4 none 4 94 0 0 sz g [.ref a0, .int a1, .int a2] none g' := by
  refine hM.of (by decide) (Nat.le_of_ble_eq_true rfl) (fun K hl C hin hsz => ?_)
  subst hl
  subst hsz
  have C : VC K E 4 cX9_triesMachine RX9 none := C
  unfold fX9_triesMachine at hf
  replace hf := okb_some hf
  obtain ⟨ho, hf⟩ := hf
  refine V.start (L' := [(0, .ref a0), (1, .int a1), (2, .int a2)]) rfl ?_
  refine V.aload_n (pc := 0) C dX9_triesMachine_0 0 rfl ?_
  refine V.aload_n (pc := 1) C dX9_triesMachine_1 0 rfl ?_
  replace hf := ob_some hf
  obtain ⟨p1, h2, hf⟩ := hf
  refine V.getR (pc := 2) C kX9 (k := 31) (by decide) wd_1081 h2 dX9_triesMachine_2 ?_
  refine V.iload_n (pc := 5) C dX9_triesMachine_5 1 rfl ?_
  replace hf := ob_some hf
  obtain ⟨x3, h4, hf⟩ := hf
  refine V.iald (pc := 6) C h4 dX9_triesMachine_6 ?_
  replace hf := ob_some hf
  obtain ⟨q5, h6, hf⟩ := hf
  refine V.callV0i (pc := 7) C hyX9_isPair wd_1275 (mX9_isPair (r := q5.1) (g' := q5.2) K.2.1 E (kS K) h6) rfl rfl rfl (oX9_isPair h6) ⟨Nat.le_of_ble_eq_true rfl, Nat.le_of_ble_eq_true rfl⟩ (Nat.le_of_ble_eq_true rfl) dX9_triesMachine_7 ⟨Nat.zero_le _, Nat.zero_le _⟩ rfl ?_
  refine V.istore_n (pc := 10) (L' := [(3, .int q5.1), (0, .ref a0), (1, .int a1), (2, .int a2)]) C dX9_triesMachine_10 (by decide) rfl ?_
  refine V.aload_n (pc := 11) C dX9_triesMachine_11 1 rfl ?_
  refine V.aload_n (pc := 12) C dX9_triesMachine_12 1 rfl ?_
  replace hf := ob_some hf
  obtain ⟨p7, h8, hf⟩ := hf
  refine V.getR (pc := 13) C kX9 (k := 31) (by decide) wd_1081 h8 dX9_triesMachine_13 ?_
  refine V.iload_n (pc := 16) C dX9_triesMachine_16 2 rfl ?_
  replace hf := ob_some hf
  obtain ⟨x9, h10, hf⟩ := hf
  refine V.iald (pc := 17) C h10 dX9_triesMachine_17 ?_
  refine V.iload_n (pc := 18) C dX9_triesMachine_18 0 rfl ?_
  refine V.if_eq (pc := 19) (t := 31) C dX9_triesMachine_19 (by decide) (fun c11 => ?_) (fun c11 => ?_)
  · replace hf := ite_t c11 hf
    refine V.iconst (pc := 31) C dX9_triesMachine_31 (v := (-1 : Int32)) (by decide) ?_
    refine V.sub (L' := [(0, .ref a0), (1, .int a1), (2, .int a2), (3, .int q5.1)]) [1, 2, 3, 0] rfl ?_
    exact bX9_triesMachine_32 C  hf
  replace hf := ite_f c11 hf
  refine V.aload_n (pc := 22) C dX9_triesMachine_22 1 rfl ?_
  replace hf := ob_some hf
  obtain ⟨p12, h13, hf⟩ := hf
  refine V.getR (pc := 23) C kX9 (k := 32) (by decide) wd_1082 h13 dX9_triesMachine_23 ?_
  refine V.iload_n (pc := 26) C dX9_triesMachine_26 2 rfl ?_
  replace hf := ob_some hf
  obtain ⟨x14, h15, hf⟩ := hf
  refine V.iald (pc := 27) C h15 dX9_triesMachine_27 ?_
  refine V.goto (pc := 28) (t := 32) C dX9_triesMachine_28 (by decide) ?_
  refine V.sub (L' := [(0, .ref a0), (1, .int a1), (2, .int a2), (3, .int q5.1)]) [1, 2, 3, 0] rfl ?_
  exact bX9_triesMachine_32 C  hf
