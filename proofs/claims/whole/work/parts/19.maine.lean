theorem dX8_drawn_0 : decode cX8_drawn 0 = .ok (.aload_n 0, 1) := by decide +kernel
theorem dX8_drawn_1 : decode cX8_drawn 1 = .ok (.iload_n 1, 1) := by decide +kernel
theorem dX8_drawn_2 : decode cX8_drawn 2 = .ok (.invokevirtual 112, 3) := by decide +kernel
theorem dX8_drawn_5 : decode cX8_drawn 5 = .ok (.astore_n 3, 1) := by decide +kernel
theorem dX8_drawn_6 : decode cX8_drawn 6 = .ok (.aload_n 3, 1) := by decide +kernel
theorem dX8_drawn_7 : decode cX8_drawn 7 = .ok (.ifnull 21, 3) := by decide +kernel
theorem dX8_drawn_10 : decode cX8_drawn 10 = .ok (.iload_n 2, 1) := by decide +kernel
theorem dX8_drawn_11 : decode cX8_drawn 11 = .ok (.iconst 1, 1) := by decide +kernel
theorem dX8_drawn_12 : decode cX8_drawn 12 = .ok (.if_icmp .lt 16, 3) := by decide +kernel
theorem dX8_drawn_15 : decode cX8_drawn 15 = .ok (.iload_n 2, 1) := by decide +kernel
theorem dX8_drawn_16 : decode cX8_drawn 16 = .ok (.bipush 50, 2) := by decide +kernel
theorem dX8_drawn_18 : decode cX8_drawn 18 = .ok (.if_icmp .gt 10, 3) := by decide +kernel
theorem dX8_drawn_21 : decode cX8_drawn 21 = .ok (.aload_n 0, 1) := by decide +kernel
theorem dX8_drawn_22 : decode cX8_drawn 22 = .ok (.getfield 22, 3) := by decide +kernel
theorem dX8_drawn_25 : decode cX8_drawn 25 = .ok (.ifCond .ne 5, 3) := by decide +kernel
theorem dX8_drawn_28 : decode cX8_drawn 28 = .ok (.iconst (-1), 1) := by decide +kernel
theorem dX8_drawn_29 : decode cX8_drawn 29 = .ok (.ireturn, 1) := by decide +kernel
theorem dX8_drawn_30 : decode cX8_drawn 30 = .ok (.aload_n 0, 1) := by decide +kernel
theorem dX8_drawn_31 : decode cX8_drawn 31 = .ok (.getfield 68, 3) := by decide +kernel
theorem dX8_drawn_34 : decode cX8_drawn 34 = .ok (.istore 4, 2) := by decide +kernel
theorem dX8_drawn_36 : decode cX8_drawn 36 = .ok (.iconst 0, 1) := by decide +kernel
theorem dX8_drawn_37 : decode cX8_drawn 37 = .ok (.istore 5, 2) := by decide +kernel
theorem dX8_drawn_39 : decode cX8_drawn 39 = .ok (.iconst 0, 1) := by decide +kernel
theorem dX8_drawn_40 : decode cX8_drawn 40 = .ok (.istore 6, 2) := by decide +kernel
theorem dX8_drawn_42 : decode cX8_drawn 42 = .ok (.iload 6, 2) := by decide +kernel
theorem dX8_drawn_44 : decode cX8_drawn 44 = .ok (.iload_n 2, 1) := by decide +kernel
theorem dX8_drawn_45 : decode cX8_drawn 45 = .ok (.if_icmp .ge 105, 3) := by decide +kernel
theorem dX8_drawn_48 : decode cX8_drawn 48 = .ok (.aload_n 0, 1) := by decide +kernel
theorem dX8_drawn_49 : decode cX8_drawn 49 = .ok (.aload_n 0, 1) := by decide +kernel
theorem dX8_drawn_50 : decode cX8_drawn 50 = .ok (.aload_n 0, 1) := by decide +kernel
theorem dX8_drawn_51 : decode cX8_drawn 51 = .ok (.getfield 22, 3) := by decide +kernel
theorem dX8_drawn_54 : decode cX8_drawn 54 = .ok (.invokevirtual 261, 3) := by decide +kernel
theorem dX8_drawn_57 : decode cX8_drawn 57 = .ok (.invokevirtual 94, 3) := by decide +kernel
theorem dX8_drawn_60 : decode cX8_drawn 60 = .ok (.astore 7, 2) := by decide +kernel
theorem dX8_drawn_62 : decode cX8_drawn 62 = .ok (.aload 7, 2) := by decide +kernel
theorem dX8_drawn_64 : decode cX8_drawn 64 = .ok (.ifnull 80, 3) := by decide +kernel
theorem dX8_drawn_67 : decode cX8_drawn 67 = .ok (.aload_n 0, 1) := by decide +kernel
theorem dX8_drawn_68 : decode cX8_drawn 68 = .ok (.aload 7, 2) := by decide +kernel
theorem dX8_drawn_70 : decode cX8_drawn 70 = .ok (.aload_n 0, 1) := by decide +kernel
theorem dX8_drawn_71 : decode cX8_drawn 71 = .ok (.getfield 38, 3) := by decide +kernel
theorem dX8_drawn_74 : decode cX8_drawn 74 = .ok (.getfield 105, 3) := by decide +kernel
theorem dX8_drawn_77 : decode cX8_drawn 77 = .ok (.invokevirtual 108, 3) := by decide +kernel
theorem dX8_drawn_80 : decode cX8_drawn 80 = .ok (.invokevirtual 261, 3) := by decide +kernel
theorem dX8_drawn_83 : decode cX8_drawn 83 = .ok (.istore 8, 2) := by decide +kernel
theorem dX8_drawn_85 : decode cX8_drawn 85 = .ok (.aload_n 0, 1) := by decide +kernel
theorem dX8_drawn_86 : decode cX8_drawn 86 = .ok (.iconst 1, 1) := by decide +kernel
theorem dX8_drawn_87 : decode cX8_drawn 87 = .ok (.aload_n 0, 1) := by decide +kernel
theorem dX8_drawn_88 : decode cX8_drawn 88 = .ok (.getfield 38, 3) := by decide +kernel
theorem dX8_drawn_91 : decode cX8_drawn 91 = .ok (.getfield 105, 3) := by decide +kernel
theorem dX8_drawn_94 : decode cX8_drawn 94 = .ok (.ishl, 1) := by decide +kernel
theorem dX8_drawn_95 : decode cX8_drawn 95 = .ok (.invokevirtual 261, 3) := by decide +kernel
theorem dX8_drawn_98 : decode cX8_drawn 98 = .ok (.istore 9, 2) := by decide +kernel
theorem dX8_drawn_100 : decode cX8_drawn 100 = .ok (.aload_n 0, 1) := by decide +kernel
theorem dX8_drawn_101 : decode cX8_drawn 101 = .ok (.bipush 8, 2) := by decide +kernel
theorem dX8_drawn_103 : decode cX8_drawn 103 = .ok (.invokevirtual 261, 3) := by decide +kernel
theorem dX8_drawn_106 : decode cX8_drawn 106 = .ok (.istore 10, 2) := by decide +kernel
theorem dX8_drawn_108 : decode cX8_drawn 108 = .ok (.aload_n 0, 1) := by decide +kernel
theorem dX8_drawn_109 : decode cX8_drawn 109 = .ok (.aload 7, 2) := by decide +kernel
theorem dX8_drawn_111 : decode cX8_drawn 111 = .ok (.iload 8, 2) := by decide +kernel
theorem dX8_drawn_113 : decode cX8_drawn 113 = .ok (.invokevirtual 264, 3) := by decide +kernel
theorem dX8_drawn_116 : decode cX8_drawn 116 = .ok (.aload_n 0, 1) := by decide +kernel
theorem dX8_drawn_117 : decode cX8_drawn 117 = .ok (.getfield 52, 3) := by decide +kernel
theorem dX8_drawn_120 : decode cX8_drawn 120 = .ok (.aload 7, 2) := by decide +kernel
theorem dX8_drawn_122 : decode cX8_drawn 122 = .ok (.aload_n 3, 1) := by decide +kernel
theorem dX8_drawn_123 : decode cX8_drawn 123 = .ok (.aload_n 0, 1) := by decide +kernel
theorem dX8_drawn_124 : decode cX8_drawn 124 = .ok (.aload 7, 2) := by decide +kernel
theorem dX8_drawn_126 : decode cX8_drawn 126 = .ok (.iload 8, 2) := by decide +kernel
theorem dX8_drawn_128 : decode cX8_drawn 128 = .ok (.iload 9, 2) := by decide +kernel
theorem dX8_drawn_130 : decode cX8_drawn 130 = .ok (.invokevirtual 268, 3) := by decide +kernel
theorem dX8_drawn_133 : decode cX8_drawn 133 = .ok (.iload 10, 2) := by decide +kernel
theorem dX8_drawn_135 : decode cX8_drawn 135 = .ok (.invokevirtual 272, 3) := by decide +kernel
theorem dX8_drawn_138 : decode cX8_drawn 138 = .ok (.ifCond .le 6, 3) := by decide +kernel
theorem dX8_drawn_141 : decode cX8_drawn 141 = .ok (.iinc 5 1, 3) := by decide +kernel
theorem dX8_drawn_144 : decode cX8_drawn 144 = .ok (.iinc 6 1, 3) := by decide +kernel
theorem dX8_drawn_147 : decode cX8_drawn 147 = .ok (.goto (-105), 3) := by decide +kernel
theorem dX8_drawn_150 : decode cX8_drawn 150 = .ok (.aload_n 0, 1) := by decide +kernel
theorem dX8_drawn_151 : decode cX8_drawn 151 = .ok (.iload 4, 2) := by decide +kernel
theorem dX8_drawn_153 : decode cX8_drawn 153 = .ok (.putfield 68, 3) := by decide +kernel
theorem dX8_drawn_156 : decode cX8_drawn 156 = .ok (.iload 5, 2) := by decide +kernel
theorem dX8_drawn_158 : decode cX8_drawn 158 = .ok (.ireturn, 1) := by decide +kernel
def fX8_drawn_144 (k42 : PH → Nat → Int32 → Nat → Int32 → Int32 → Int32 → Option (Int32 × PH)) (g : PH) (v0 : Nat) (v2 : Int32) (v3 : Nat) (v4 : Int32) (v5 : Int32) (v6 : Int32) : Option (Int32 × PH) :=
  k42 g v0 v2 v3 v4 v5 (v6 + (1 : Int32))
set_option maxHeartbeats 4000000 in
set_option maxRecDepth 100000 in
theorem bX8_drawn_144 {K : HK} {E : HE} {r : Int32} {g' : PH} {k42 : PH → Nat → Int32 → Nat → Int32 → Int32 → Int32 → Option (Int32 × PH)} (C : VC K E 11 cX8_drawn RX8 (some .int)) (hk42 : ∀ (g : PH) (v0 : Nat) (v2 : Int32) (v3 : Nat) (v4 : Int32) (v5 : Int32) (v6 : Int32), k42 g v0 v2 v3 v4 v5 v6 = some (r, g') → V K E (hRm 3 83 0 0) 11 (hZ K E (some (.int r)) g' 0 0) 0 0 (kS K) g 42 [(0, .ref v0), (2, .int v2), (3, .ref v3), (4, .int v4), (5, .int v5), (6, .int v6)] []) {g : PH} {v0 : Nat} {v2 : Int32} {v3 : Nat} {v4 : Int32} {v5 : Int32} {v6 : Int32} (hf : fX8_drawn_144 k42 g v0 v2 v3 v4 v5 v6 = some (r, g')) : V K E (hRm 3 83 0 0) 11 (hZ K E (some (.int r)) g' 0 0) 0 0 (kS K) g 144 [(0, .ref v0), (2, .int v2), (3, .ref v3), (4, .int v4), (5, .int v5), (6, .int v6)] [] := by
  unfold fX8_drawn_144 at hf
  refine V.iinc (pc := 144) (v := (v6 + (1 : Int32))) (L' := [(6, .int (v6 + (1 : Int32))), (0, .ref v0), (2, .int v2), (3, .ref v3), (4, .int v4), (5, .int v5)]) C dX8_drawn_144 5 rfl rfl (by decide) rfl ?_
  refine V.goto (pc := 147) (t := 42) C dX8_drawn_147 (by decide) ?_
  refine V.sub (L' := [(0, .ref v0), (2, .int v2), (3, .ref v3), (4, .int v4), (5, .int v5), (6, .int (v6 + (1 : Int32)))]) [1, 2, 3, 4, 5, 0] rfl ?_
  exact hk42 _ _ _ _ _ _ _ hf
def fX8_drawn_42  : Nat → PH → Nat → Int32 → Nat → Int32 → Int32 → Int32 → Option (Int32 × PH)
  | 0, _, _, _, _, _, _, _ => none
  | n + 1, g, v0, v2, v3, v4, v5, v6 =>
  if v2 ≤ v6 then ((putV g v0 8 11 (.int v4)).bind fun g2 =>
  (some (v5, g2))) else
  ((getI g v0 8 2).bind fun x4 =>
  ((fX8_draw g v0 x4).bind fun q6 =>
  ((fX8_kindAt q6.2 v0 q6.1).bind fun (z9, g10) =>
  (z9.elim (fX8_drawn_144 (fX8_drawn_42 n) g10 v0 v2 v3 v4 v5 v6) (fun p12 =>
  (getR g10 v0 8 5).bind fun p13 =>
  ((getI g10 p13 3 0).bind fun x15 =>
  ((fX1_placements g10 p12 x15).bind fun q17 =>
  ((fX8_draw q17.2 v0 q17.1).bind fun q19 =>
  ((getR q19.2 v0 8 5).bind fun p21 =>
  ((getI q19.2 p21 3 0).bind fun x23 =>
  ((fX8_draw q19.2 v0 ((1 : Int32) <<< (x23 &&& 31))).bind fun q25 =>
  ((fX8_draw q25.2 v0 (8 : Int32)).bind fun q27 =>
  ((fX8_aim q27.2 v0 p12 q19.1).bind fun q29 =>
  ((getR q29.2 v0 8 7).bind fun p31 =>
  ((fX8_stateIn q29.2 v0 p12 q19.1 q25.1).bind fun q33 =>
  ((fX7_go q33.2 p31 p12 v3 q33.1 q27.1).bind fun q35 =>
  (if q35.1 ≤ 0 then (fX8_drawn_144 (fX8_drawn_42 n) q35.2 v0 v2 v3 v4 v5 v6) else
  (fX8_drawn_144 (fX8_drawn_42 n) q35.2 v0 v2 v3 v4 (v5 + (1 : Int32)) v6))))))))))))))))))
set_option maxHeartbeats 4000000 in
set_option maxRecDepth 100000 in
theorem bX8_drawn_42 {K : HK} {E : HE} {r : Int32} {g' : PH}  (C : VC K E 11 cX8_drawn RX8 (some .int))  : ∀ (n : Nat) (g : PH) (v0 : Nat) (v2 : Int32) (v3 : Nat) (v4 : Int32) (v5 : Int32) (v6 : Int32), fX8_drawn_42  n g v0 v2 v3 v4 v5 v6 = some (r, g') → V K E (hRm 3 83 0 0) 11 (hZ K E (some (.int r)) g' 0 0) 0 0 (kS K) g 42 [(0, .ref v0), (2, .int v2), (3, .ref v3), (4, .int v4), (5, .int v5), (6, .int v6)] [] := by
  intro n
  induction n with
  | zero =>
    intro g v0 v2 v3 v4 v5 v6 hf
    rw [fX8_drawn_42] at hf
    cases hf
  | succ n ih =>
    intro g v0 v2 v3 v4 v5 v6 hf
    rw [fX8_drawn_42] at hf
    refine V.iload (pc := 42) C dX8_drawn_42 5 rfl ?_
    refine V.iload_n (pc := 44) C dX8_drawn_44 1 rfl ?_
    refine V.icmp_ge (pc := 45) (t := 150) C dX8_drawn_45 (by decide) (fun c1 => ?_) (fun c1 => ?_)
    · replace hf := ite_t c1 hf
      refine V.aload_n (pc := 150) C dX8_drawn_150 0 rfl ?_
      refine V.iload (pc := 151) C dX8_drawn_151 3 rfl ?_
      replace hf := ob_some hf
      obtain ⟨g2, h3, hf⟩ := hf
      refine V.putX (pc := 153) C kX8 (k := 11) (by decide) wd_199 rfl rfl rfl h3 dX8_drawn_153 ?_
      refine V.iload (pc := 156) C dX8_drawn_156 4 rfl ?_
      obtain ⟨f1, f2⟩ := fin2 hf
      clear hf
      subst f1
      subst f2
      exact V.iret (pc := 158) C rfl dX8_drawn_158
    replace hf := ite_f c1 hf
    refine V.aload_n (pc := 48) C dX8_drawn_48 0 rfl ?_
    refine V.aload_n (pc := 49) C dX8_drawn_49 0 rfl ?_
    refine V.aload_n (pc := 50) C dX8_drawn_50 0 rfl ?_
    replace hf := ob_some hf
    obtain ⟨x4, h5, hf⟩ := hf
    refine V.getI (pc := 51) C kX8 (k := 2) (by decide) wd_190 h5 dX8_drawn_51 ?_
    replace hf := ob_some hf
    obtain ⟨q6, h7, hf⟩ := hf
    refine V.callV0i (pc := 54) C hyX8_draw wd_1028 (mX8_draw (r := q6.1) (g' := q6.2) K.2.1 E (kS K) h7) rfl rfl rfl (oX8_draw h7) ⟨Nat.le_of_ble_eq_true rfl, Nat.le_of_ble_eq_true rfl⟩ (Nat.le_of_ble_eq_true rfl) dX8_drawn_54 ⟨Nat.zero_le _, Nat.zero_le _⟩ rfl ?_
    replace hf := ob_some hf
    obtain ⟨⟨z9, g10⟩, h11, hf⟩ := hf
    dsimp only at hf
    refine V.callV0q (pc := 57) C hyX8_kindAt wd_537 (mX8_kindAt (r := z9) (g' := g10) K.2.1 E (kS K) h11) rfl rfl rfl (oX8_kindAt h11) ⟨Nat.le_of_ble_eq_true rfl, Nat.le_of_ble_eq_true rfl⟩ (Nat.le_of_ble_eq_true rfl) dX8_drawn_57 ⟨Nat.zero_le _, Nat.zero_le _⟩ rfl ?_
    refine V.astoreQ (pc := 60) (L' := [(7, va_rf z9), (0, .ref v0), (2, .int v2), (3, .ref v3), (4, .int v4), (5, .int v5), (6, .int v6)]) C (x := z9) dX8_drawn_60 (by decide) rfl ?_
    refine V.aloadQ (pc := 62) C dX8_drawn_62 0 rfl ?_
    rcases z9 with _ | p12
    · refine V.ifnullN (pc := 64) (t := 144) C dX8_drawn_64 (by decide) ?_
      refine V.sub (L' := [(0, .ref v0), (2, .int v2), (3, .ref v3), (4, .int v4), (5, .int v5), (6, .int v6)]) [1, 2, 3, 4, 5, 6] rfl ?_
      exact bX8_drawn_144 C ih hf
    refine V.ifnull (pc := 64) C dX8_drawn_64 ?_
    refine V.aload_n (pc := 67) C dX8_drawn_67 1 rfl ?_
    refine V.aload (pc := 68) C dX8_drawn_68 0 rfl ?_
    refine V.aload_n (pc := 70) C dX8_drawn_70 1 rfl ?_
    replace hf := ob_some hf
    obtain ⟨p13, h14, hf⟩ := hf
    refine V.getR (pc := 71) C kX8 (k := 5) (by decide) wd_193 h14 dX8_drawn_71 ?_
    replace hf := ob_some hf
    obtain ⟨x15, h16, hf⟩ := hf
    refine V.getI (pc := 74) C kX3 (k := 0) (by decide) wd_60 h16 dX8_drawn_74 ?_
    replace hf := ob_some hf
    obtain ⟨q17, h18, hf⟩ := hf
    refine V.callV0i (pc := 77) C hyX1_placements wd_541 (mX1_placements (r := q17.1) (g' := q17.2) K.2.1 E (kS K) h18) rfl rfl rfl (oX1_placements h18) ⟨Nat.le_of_ble_eq_true rfl, Nat.le_of_ble_eq_true rfl⟩ (Nat.le_of_ble_eq_true rfl) dX8_drawn_77 ⟨Nat.zero_le _, Nat.zero_le _⟩ rfl ?_
    replace hf := ob_some hf
    obtain ⟨q19, h20, hf⟩ := hf
    refine V.callV0i (pc := 80) C hyX8_draw wd_1028 (mX8_draw (r := q19.1) (g' := q19.2) K.2.1 E (kS K) h20) rfl rfl rfl (oX8_draw h20) ⟨Nat.le_of_ble_eq_true rfl, Nat.le_of_ble_eq_true rfl⟩ (Nat.le_of_ble_eq_true rfl) dX8_drawn_80 ⟨Nat.zero_le _, Nat.zero_le _⟩ rfl ?_
    refine V.istore (pc := 83) (L' := [(8, .int q19.1), (7, .ref p12), (0, .ref v0), (2, .int v2), (3, .ref v3), (4, .int v4), (5, .int v5), (6, .int v6)]) C dX8_drawn_83 (by decide) rfl ?_
    refine V.aload_n (pc := 85) C dX8_drawn_85 2 rfl ?_
    refine V.iconst (pc := 86) C dX8_drawn_86 (v := (1 : Int32)) (by decide) ?_
    refine V.aload_n (pc := 87) C dX8_drawn_87 2 rfl ?_
    replace hf := ob_some hf
    obtain ⟨p21, h22, hf⟩ := hf
    refine V.getR (pc := 88) C kX8 (k := 5) (by decide) wd_193 h22 dX8_drawn_88 ?_
    replace hf := ob_some hf
    obtain ⟨x23, h24, hf⟩ := hf
    refine V.getI (pc := 91) C kX3 (k := 0) (by decide) wd_60 h24 dX8_drawn_91 ?_
    refine V.ishl (pc := 94) C dX8_drawn_94 ?_
    replace hf := ob_some hf
    obtain ⟨q25, h26, hf⟩ := hf
    refine V.callV0i (pc := 95) C hyX8_draw wd_1028 (mX8_draw (r := q25.1) (g' := q25.2) K.2.1 E (kS K) h26) rfl rfl rfl (oX8_draw h26) ⟨Nat.le_of_ble_eq_true rfl, Nat.le_of_ble_eq_true rfl⟩ (Nat.le_of_ble_eq_true rfl) dX8_drawn_95 ⟨Nat.zero_le _, Nat.zero_le _⟩ rfl ?_
    refine V.istore (pc := 98) (L' := [(9, .int q25.1), (8, .int q19.1), (7, .ref p12), (0, .ref v0), (2, .int v2), (3, .ref v3), (4, .int v4), (5, .int v5), (6, .int v6)]) C dX8_drawn_98 (by decide) rfl ?_
    refine V.aload_n (pc := 100) C dX8_drawn_100 3 rfl ?_
    refine V.bipush (pc := 101) C dX8_drawn_101 (v := (8 : Int32)) (by decide) ?_
    replace hf := ob_some hf
    obtain ⟨q27, h28, hf⟩ := hf
    refine V.callV0i (pc := 103) C hyX8_draw wd_1028 (mX8_draw (r := q27.1) (g' := q27.2) K.2.1 E (kS K) h28) rfl rfl rfl (oX8_draw h28) ⟨Nat.le_of_ble_eq_true rfl, Nat.le_of_ble_eq_true rfl⟩ (Nat.le_of_ble_eq_true rfl) dX8_drawn_103 ⟨Nat.zero_le _, Nat.zero_le _⟩ rfl ?_
    refine V.istore (pc := 106) (L' := [(10, .int q27.1), (9, .int q25.1), (8, .int q19.1), (7, .ref p12), (0, .ref v0), (2, .int v2), (3, .ref v3), (4, .int v4), (5, .int v5), (6, .int v6)]) C dX8_drawn_106 (by decide) rfl ?_
    refine V.aload_n (pc := 108) C dX8_drawn_108 4 rfl ?_
    refine V.aload (pc := 109) C dX8_drawn_109 3 rfl ?_
    refine V.iload (pc := 111) C dX8_drawn_111 2 rfl ?_
    replace hf := ob_some hf
    obtain ⟨q29, h30, hf⟩ := hf
    refine V.callV0v (pc := 113) C hyX8_aim wd_643 (mX8_aim (r := q29.1) (g' := q29.2) K.2.1 E (kS K) h30) rfl rfl rfl (oX8_aim h30) ⟨Nat.le_of_ble_eq_true rfl, Nat.le_of_ble_eq_true rfl⟩ (Nat.le_of_ble_eq_true rfl) dX8_drawn_113 ⟨Nat.zero_le _, Nat.zero_le _⟩ rfl ?_
    refine V.aload_n (pc := 116) C dX8_drawn_116 4 rfl ?_
    replace hf := ob_some hf
    obtain ⟨p31, h32, hf⟩ := hf
    refine V.getR (pc := 117) C kX8 (k := 7) (by decide) wd_195 h32 dX8_drawn_117 ?_
    refine V.aload (pc := 120) C dX8_drawn_120 3 rfl ?_
    refine V.aload_n (pc := 122) C dX8_drawn_122 6 rfl ?_
    refine V.aload_n (pc := 123) C dX8_drawn_123 4 rfl ?_
    refine V.aload (pc := 124) C dX8_drawn_124 3 rfl ?_
    refine V.iload (pc := 126) C dX8_drawn_126 2 rfl ?_
    refine V.iload (pc := 128) C dX8_drawn_128 1 rfl ?_
    replace hf := ob_some hf
    obtain ⟨q33, h34, hf⟩ := hf
    refine V.callV0i (pc := 130) C hyX8_stateIn wd_659 (mX8_stateIn (r := q33.1) (g' := q33.2) K.2.1 E (kS K) h34) rfl rfl rfl (oX8_stateIn h34) ⟨Nat.le_of_ble_eq_true rfl, Nat.le_of_ble_eq_true rfl⟩ (Nat.le_of_ble_eq_true rfl) dX8_drawn_130 ⟨Nat.zero_le _, Nat.zero_le _⟩ rfl ?_
    refine V.iload (pc := 133) C dX8_drawn_133 0 rfl ?_
    replace hf := ob_some hf
    obtain ⟨q35, h36, hf⟩ := hf
    refine V.callV0i (pc := 135) C hyX7_go wd_594 (mX7_go (r := q35.1) (g' := q35.2) K.2.1 E (kS K) h36) rfl rfl rfl (oX7_go h36) ⟨Nat.le_of_ble_eq_true rfl, Nat.le_of_ble_eq_true rfl⟩ (Nat.le_of_ble_eq_true rfl) dX8_drawn_135 ⟨Nat.zero_le _, Nat.zero_le _⟩ rfl ?_
    refine V.if_le (pc := 138) (t := 144) C dX8_drawn_138 (by decide) (fun c37 => ?_) (fun c37 => ?_)
    · replace hf := ite_t c37 hf
      refine V.sub (L' := [(0, .ref v0), (2, .int v2), (3, .ref v3), (4, .int v4), (5, .int v5), (6, .int v6)]) [4, 5, 6, 7, 8, 9] rfl ?_
      exact bX8_drawn_144 C ih hf
    replace hf := ite_f c37 hf
    refine V.iinc (pc := 141) (v := (v5 + (1 : Int32))) (L' := [(5, .int (v5 + (1 : Int32))), (10, .int q27.1), (9, .int q25.1), (8, .int q19.1), (7, .ref p12), (0, .ref v0), (2, .int v2), (3, .ref v3), (4, .int v4), (6, .int v6)]) C dX8_drawn_141 8 rfl rfl (by decide) rfl ?_
    refine V.sub (L' := [(0, .ref v0), (2, .int v2), (3, .ref v3), (4, .int v4), (5, .int (v5 + (1 : Int32))), (6, .int v6)]) [5, 6, 7, 8, 0, 9] rfl ?_
    exact bX8_drawn_144 C ih hf
def fX8_drawn (g : PH) (a0 : Nat) (a1 : Int32) (a2 : Int32) : Option (Int32 × PH) :=
  okb (isO g a0 8) ((fX8_marchAt g a0 a1).bind fun (z2, g3) =>
  (z2.elim (some ((-1 : Int32), g3)) (fun p5 =>
  if a2 < (1 : Int32) then (some ((-1 : Int32), g3)) else
  (if (50 : Int32) < a2 then (some ((-1 : Int32), g3)) else
  ((getI g3 a0 8 2).bind fun x8 =>
  (if x8 = 0 then (some ((-1 : Int32), g3)) else
  ((getI g3 a0 8 11).bind fun x11 =>
  (fX8_drawn_42 FUEL g3 a0 a2 p5 x11 (0 : Int32) (0 : Int32)))))))))
theorem oX8_drawn {g : PH} {a0 : Nat} {a1 : Int32} {a2 : Int32} {q : (Int32 × PH)} (h : fX8_drawn g a0 a1 a2 = some q) : isO g a0 8 = true := by unfold fX8_drawn at h; exact (okb_some h).1
theorem hyX8_drawn : hMet yX8_drawn RX8 cX8_drawn 11 (some .int) 2 := ⟨wd_1027, wd_1025, wd_1026, wd_1, rfl, by decide +kernel, by decide +kernel, by decide +kernel⟩
set_option maxHeartbeats 4000000 in
set_option maxRecDepth 100000 in
theorem mX8_drawn (l : Launch) (E : HE) (sz : Nat) {g g' : PH} {a0 : Nat} {a1 : Int32} {a2 : Int32} {r : Int32} (hf : fX8_drawn g a0 a1 a2 = some (r, g')) : hM l E yX8_drawn cX8_drawn 11 (some .int) 3 83 0 0 sz g [.ref a0, .int a1, .int a2] (some (.int r)) g' := by
  refine hM.of (by decide) (Nat.le_of_ble_eq_true rfl) (fun K hl C hin hsz => ?_)
  subst hl
  subst hsz
  have C : VC K E 11 cX8_drawn RX8 (some .int) := C
  unfold fX8_drawn at hf
  replace hf := okb_some hf
  obtain ⟨ho, hf⟩ := hf
  refine V.start (L' := [(0, .ref a0), (1, .int a1), (2, .int a2)]) rfl ?_
  refine V.aload_n (pc := 0) C dX8_drawn_0 0 rfl ?_
  refine V.iload_n (pc := 1) C dX8_drawn_1 1 rfl ?_
  replace hf := ob_some hf
  obtain ⟨⟨z2, g3⟩, h4, hf⟩ := hf
  dsimp only at hf
  refine V.callV0q (pc := 2) C hyX8_marchAt wd_549 (mX8_marchAt (r := z2) (g' := g3) K.2.1 E (kS K) h4) rfl rfl rfl (oX8_marchAt h4) ⟨Nat.le_of_ble_eq_true rfl, Nat.le_of_ble_eq_true rfl⟩ (Nat.le_of_ble_eq_true rfl) dX8_drawn_2 ⟨Nat.zero_le _, Nat.zero_le _⟩ rfl ?_
  refine V.astore_nQ (pc := 5) (L' := [(3, va_rf z2), (0, .ref a0), (1, .int a1), (2, .int a2)]) C (x := z2) dX8_drawn_5 (by decide) rfl ?_
  refine V.aload_nQ (pc := 6) C dX8_drawn_6 0 rfl ?_
  rcases z2 with _ | p5
  · refine V.ifnullN (pc := 7) (t := 28) C dX8_drawn_7 (by decide) ?_
    refine V.iconst (pc := 28) C dX8_drawn_28 (v := (-1 : Int32)) (by decide) ?_
    obtain ⟨f1, f2⟩ := fin2 hf
    clear hf
    subst f1
    subst f2
    exact V.iret (pc := 29) C rfl dX8_drawn_29
  refine V.ifnull (pc := 7) C dX8_drawn_7 ?_
  refine V.iload_n (pc := 10) C dX8_drawn_10 3 rfl ?_
  refine V.iconst (pc := 11) C dX8_drawn_11 (v := (1 : Int32)) (by decide) ?_
  refine V.icmp_lt (pc := 12) (t := 28) C dX8_drawn_12 (by decide) (fun c6 => ?_) (fun c6 => ?_)
  · replace hf := ite_t c6 hf
    refine V.iconst (pc := 28) C dX8_drawn_28 (v := (-1 : Int32)) (by decide) ?_
    obtain ⟨f1, f2⟩ := fin2 hf
    clear hf
    subst f1
    subst f2
    exact V.iret (pc := 29) C rfl dX8_drawn_29
  replace hf := ite_f c6 hf
  refine V.iload_n (pc := 15) C dX8_drawn_15 3 rfl ?_
  refine V.bipush (pc := 16) C dX8_drawn_16 (v := (50 : Int32)) (by decide) ?_
  refine V.icmp_gt (pc := 18) (t := 28) C dX8_drawn_18 (by decide) (fun c7 => ?_) (fun c7 => ?_)
  · replace hf := ite_t c7 hf
    refine V.iconst (pc := 28) C dX8_drawn_28 (v := (-1 : Int32)) (by decide) ?_
    obtain ⟨f1, f2⟩ := fin2 hf
    clear hf
    subst f1
    subst f2
    exact V.iret (pc := 29) C rfl dX8_drawn_29
  replace hf := ite_f c7 hf
  refine V.aload_n (pc := 21) C dX8_drawn_21 1 rfl ?_
  replace hf := ob_some hf
  obtain ⟨x8, h9, hf⟩ := hf
  refine V.getI (pc := 22) C kX8 (k := 2) (by decide) wd_190 h9 dX8_drawn_22 ?_
  refine V.if_ne (pc := 25) (t := 30) C dX8_drawn_25 (by decide) (fun c10 => ?_) (fun c10 => ?_)
  · replace hf := ite_f c10 hf
    refine V.aload_n (pc := 30) C dX8_drawn_30 1 rfl ?_
    replace hf := ob_some hf
    obtain ⟨x11, h12, hf⟩ := hf
    refine V.getI (pc := 31) C kX8 (k := 11) (by decide) wd_199 h12 dX8_drawn_31 ?_
    refine V.istore (pc := 34) (L' := [(4, .int x11), (3, .ref p5), (0, .ref a0), (1, .int a1), (2, .int a2)]) C dX8_drawn_34 (by decide) rfl ?_
    refine V.iconst (pc := 36) C dX8_drawn_36 (v := (0 : Int32)) (by decide) ?_
    refine V.istore (pc := 37) (L' := [(5, .int (0 : Int32)), (4, .int x11), (3, .ref p5), (0, .ref a0), (1, .int a1), (2, .int a2)]) C dX8_drawn_37 (by decide) rfl ?_
    refine V.iconst (pc := 39) C dX8_drawn_39 (v := (0 : Int32)) (by decide) ?_
    refine V.istore (pc := 40) (L' := [(6, .int (0 : Int32)), (5, .int (0 : Int32)), (4, .int x11), (3, .ref p5), (0, .ref a0), (1, .int a1), (2, .int a2)]) C dX8_drawn_40 (by decide) rfl ?_
    refine V.sub (L' := [(0, .ref a0), (2, .int a2), (3, .ref p5), (4, .int x11), (5, .int (0 : Int32)), (6, .int (0 : Int32))]) [4, 6, 3, 2, 1, 0] rfl ?_
    exact bX8_drawn_42 C  _ _ _ _ _ _ _ _ hf
  replace hf := ite_t c10 hf
  refine V.iconst (pc := 28) C dX8_drawn_28 (v := (-1 : Int32)) (by decide) ?_
  obtain ⟨f1, f2⟩ := fin2 hf
  clear hf
  subst f1
  subst f2
  exact V.iret (pc := 29) C rfl dX8_drawn_29
theorem dX8_count_0 : decode cX8_count 0 = .ok (.iload_n 1, 1) := by decide +kernel
theorem dX8_count_1 : decode cX8_count 1 = .ok (.tableswitch 138 0 10 #[59, 67, 72, 77, 85, 93, 101, 109, 117, 125, 130], 59) := by decide +kernel
theorem dX8_count_60 : decode cX8_count 60 = .ok (.aload_n 0, 1) := by decide +kernel
theorem dX8_count_61 : decode cX8_count 61 = .ok (.getfield 38, 3) := by decide +kernel
theorem dX8_count_64 : decode cX8_count 64 = .ok (.getfield 105, 3) := by decide +kernel
theorem dX8_count_67 : decode cX8_count 67 = .ok (.ireturn, 1) := by decide +kernel
theorem dX8_count_68 : decode cX8_count 68 = .ok (.aload_n 0, 1) := by decide +kernel
theorem dX8_count_69 : decode cX8_count 69 = .ok (.getfield 22, 3) := by decide +kernel
theorem dX8_count_72 : decode cX8_count 72 = .ok (.ireturn, 1) := by decide +kernel
theorem dX8_count_73 : decode cX8_count 73 = .ok (.aload_n 0, 1) := by decide +kernel
theorem dX8_count_74 : decode cX8_count 74 = .ok (.getfield 32, 3) := by decide +kernel
theorem dX8_count_77 : decode cX8_count 77 = .ok (.ireturn, 1) := by decide +kernel
theorem dX8_count_78 : decode cX8_count 78 = .ok (.aload_n 0, 1) := by decide +kernel
theorem dX8_count_79 : decode cX8_count 79 = .ok (.getfield 38, 3) := by decide +kernel
theorem dX8_count_82 : decode cX8_count 82 = .ok (.getfield 275, 3) := by decide +kernel
theorem dX8_count_85 : decode cX8_count 85 = .ok (.ireturn, 1) := by decide +kernel
theorem dX8_count_86 : decode cX8_count 86 = .ok (.aload_n 0, 1) := by decide +kernel
theorem dX8_count_87 : decode cX8_count 87 = .ok (.getfield 38, 3) := by decide +kernel
theorem dX8_count_90 : decode cX8_count 90 = .ok (.getfield 278, 3) := by decide +kernel
theorem dX8_count_93 : decode cX8_count 93 = .ok (.ireturn, 1) := by decide +kernel
theorem dX8_count_94 : decode cX8_count 94 = .ok (.aload_n 0, 1) := by decide +kernel
theorem dX8_count_95 : decode cX8_count 95 = .ok (.getfield 38, 3) := by decide +kernel
theorem dX8_count_98 : decode cX8_count 98 = .ok (.getfield 281, 3) := by decide +kernel
theorem dX8_count_101 : decode cX8_count 101 = .ok (.ireturn, 1) := by decide +kernel
theorem dX8_count_102 : decode cX8_count 102 = .ok (.aload_n 0, 1) := by decide +kernel
theorem dX8_count_103 : decode cX8_count 103 = .ok (.getfield 38, 3) := by decide +kernel
theorem dX8_count_106 : decode cX8_count 106 = .ok (.getfield 198, 3) := by decide +kernel
theorem dX8_count_109 : decode cX8_count 109 = .ok (.ireturn, 1) := by decide +kernel
theorem dX8_count_110 : decode cX8_count 110 = .ok (.aload_n 0, 1) := by decide +kernel
theorem dX8_count_111 : decode cX8_count 111 = .ok (.getfield 38, 3) := by decide +kernel
theorem dX8_count_114 : decode cX8_count 114 = .ok (.getfield 211, 3) := by decide +kernel
theorem dX8_count_117 : decode cX8_count 117 = .ok (.ireturn, 1) := by decide +kernel
theorem dX8_count_118 : decode cX8_count 118 = .ok (.aload_n 0, 1) := by decide +kernel
theorem dX8_count_119 : decode cX8_count 119 = .ok (.getfield 45, 3) := by decide +kernel
theorem dX8_count_122 : decode cX8_count 122 = .ok (.getfield 225, 3) := by decide +kernel
theorem dX8_count_125 : decode cX8_count 125 = .ok (.ireturn, 1) := by decide +kernel
theorem dX8_count_126 : decode cX8_count 126 = .ok (.aload_n 0, 1) := by decide +kernel
theorem dX8_count_127 : decode cX8_count 127 = .ok (.getfield 68, 3) := by decide +kernel
theorem dX8_count_130 : decode cX8_count 130 = .ok (.ireturn, 1) := by decide +kernel
theorem dX8_count_131 : decode cX8_count 131 = .ok (.aload_n 0, 1) := by decide +kernel
theorem dX8_count_132 : decode cX8_count 132 = .ok (.getfield 10, 3) := by decide +kernel
theorem dX8_count_135 : decode cX8_count 135 = .ok (.getfield 75, 3) := by decide +kernel
theorem dX8_count_138 : decode cX8_count 138 = .ok (.ireturn, 1) := by decide +kernel
theorem dX8_count_139 : decode cX8_count 139 = .ok (.iconst (-1), 1) := by decide +kernel
theorem dX8_count_140 : decode cX8_count 140 = .ok (.ireturn, 1) := by decide +kernel
def fX8_count (g : PH) (a0 : Nat) (a1 : Int32) : Option (Int32 × PH) :=
  okb (isO g a0 8) (if a1 = 0 then ((getR g a0 8 5).bind fun p2 =>
  ((getI g p2 3 0).bind fun x4 =>
  (some (x4, g)))) else
  (if a1 = 1 then ((getI g a0 8 2).bind fun x7 =>
  (some (x7, g))) else
  (if a1 = 2 then ((getI g a0 8 4).bind fun x10 =>
  (some (x10, g))) else
  (if a1 = 3 then ((getR g a0 8 5).bind fun p13 =>
  ((getI g p13 3 3).bind fun x15 =>
  (some (x15, g)))) else
  (if a1 = 4 then ((getR g a0 8 5).bind fun p18 =>
  ((getI g p18 3 4).bind fun x20 =>
  (some (x20, g)))) else
  (if a1 = 5 then ((getR g a0 8 5).bind fun p23 =>
  ((getI g p23 3 5).bind fun x25 =>
  (some (x25, g)))) else
  (if a1 = 6 then ((getR g a0 8 5).bind fun p28 =>
  ((getI g p28 3 1).bind fun x30 =>
  (some (x30, g)))) else
  (if a1 = 7 then ((getR g a0 8 5).bind fun p33 =>
  ((getI g p33 3 8).bind fun x35 =>
  (some (x35, g)))) else
  (if a1 = 8 then ((getR g a0 8 6).bind fun p38 =>
  ((getI g p38 0 0).bind fun x40 =>
  (some (x40, g)))) else
  (if a1 = 9 then ((getI g a0 8 11).bind fun x43 =>
  (some (x43, g))) else
  (if a1 = 10 then ((getR g a0 8 0).bind fun p46 =>
  ((getI g p46 6 1).bind fun x48 =>
  (some (x48, g)))) else
  (some ((-1 : Int32), g)))))))))))))
theorem oX8_count {g : PH} {a0 : Nat} {a1 : Int32} {q : (Int32 × PH)} (h : fX8_count g a0 a1 = some q) : isO g a0 8 = true := by unfold fX8_count at h; exact (okb_some h).1
theorem hyX8_count : hMet yX8_count RX8 cX8_count 2 (some .int) 1 := ⟨wd_1039, wd_1037, wd_1038, wd_1, rfl, by decide +kernel, by decide +kernel, by decide +kernel⟩
set_option maxHeartbeats 4000000 in
set_option maxRecDepth 100000 in
theorem mX8_count (l : Launch) (E : HE) (sz : Nat) {g g' : PH} {a0 : Nat} {a1 : Int32} {r : Int32} (hf : fX8_count g a0 a1 = some (r, g')) : hM l E yX8_count cX8_count 2 (some .int) 0 0 0 0 sz g [.ref a0, .int a1] (some (.int r)) g' := by
  refine hM.of (by decide) (Nat.le_of_ble_eq_true rfl) (fun K hl C hin hsz => ?_)
  subst hl
  subst hsz
  have C : VC K E 2 cX8_count RX8 (some .int) := C
  unfold fX8_count at hf
  replace hf := okb_some hf
  obtain ⟨ho, hf⟩ := hf
  refine V.start (L' := [(0, .ref a0), (1, .int a1)]) rfl ?_
  refine V.iload_n (pc := 0) C dX8_count_0 1 rfl ?_
  by_cases c1 : a1 = 0
  · replace hf := ite_t c1 hf
    refine V.tsIn (pc := 1) (k := 0) (t := 60) C dX8_count_1 c1 (by decide) (by decide) rfl (by decide) ?_
    refine V.aload_n (pc := 60) C dX8_count_60 0 rfl ?_
    replace hf := ob_some hf
    obtain ⟨p2, h3, hf⟩ := hf
    refine V.getR (pc := 61) C kX8 (k := 5) (by decide) wd_193 h3 dX8_count_61 ?_
    replace hf := ob_some hf
    obtain ⟨x4, h5, hf⟩ := hf
    refine V.getI (pc := 64) C kX3 (k := 0) (by decide) wd_60 h5 dX8_count_64 ?_
    obtain ⟨f1, f2⟩ := fin2 hf
    clear hf
    subst f1
    subst f2
    exact V.iret (pc := 67) C rfl dX8_count_67
  replace hf := ite_f c1 hf
  by_cases c6 : a1 = 1
  · replace hf := ite_t c6 hf
    refine V.tsIn (pc := 1) (k := 1) (t := 68) C dX8_count_1 c6 (by decide) (by decide) rfl (by decide) ?_
    refine V.aload_n (pc := 68) C dX8_count_68 0 rfl ?_
    replace hf := ob_some hf
    obtain ⟨x7, h8, hf⟩ := hf
    refine V.getI (pc := 69) C kX8 (k := 2) (by decide) wd_190 h8 dX8_count_69 ?_
    obtain ⟨f1, f2⟩ := fin2 hf
    clear hf
    subst f1
    subst f2
    exact V.iret (pc := 72) C rfl dX8_count_72
  replace hf := ite_f c6 hf
  by_cases c9 : a1 = 2
  · replace hf := ite_t c9 hf
    refine V.tsIn (pc := 1) (k := 2) (t := 73) C dX8_count_1 c9 (by decide) (by decide) rfl (by decide) ?_
    refine V.aload_n (pc := 73) C dX8_count_73 0 rfl ?_
    replace hf := ob_some hf
    obtain ⟨x10, h11, hf⟩ := hf
    refine V.getI (pc := 74) C kX8 (k := 4) (by decide) wd_192 h11 dX8_count_74 ?_
    obtain ⟨f1, f2⟩ := fin2 hf
    clear hf
    subst f1
    subst f2
    exact V.iret (pc := 77) C rfl dX8_count_77
  replace hf := ite_f c9 hf
  by_cases c12 : a1 = 3
  · replace hf := ite_t c12 hf
    refine V.tsIn (pc := 1) (k := 3) (t := 78) C dX8_count_1 c12 (by decide) (by decide) rfl (by decide) ?_
    refine V.aload_n (pc := 78) C dX8_count_78 0 rfl ?_
    replace hf := ob_some hf
    obtain ⟨p13, h14, hf⟩ := hf
    refine V.getR (pc := 79) C kX8 (k := 5) (by decide) wd_193 h14 dX8_count_79 ?_
    replace hf := ob_some hf
    obtain ⟨x15, h16, hf⟩ := hf
    refine V.getI (pc := 82) C kX3 (k := 3) (by decide) wd_66 h16 dX8_count_82 ?_
    obtain ⟨f1, f2⟩ := fin2 hf
    clear hf
    subst f1
    subst f2
    exact V.iret (pc := 85) C rfl dX8_count_85
  replace hf := ite_f c12 hf
  by_cases c17 : a1 = 4
  · replace hf := ite_t c17 hf
    refine V.tsIn (pc := 1) (k := 4) (t := 86) C dX8_count_1 c17 (by decide) (by decide) rfl (by decide) ?_
    refine V.aload_n (pc := 86) C dX8_count_86 0 rfl ?_
    replace hf := ob_some hf
    obtain ⟨p18, h19, hf⟩ := hf
    refine V.getR (pc := 87) C kX8 (k := 5) (by decide) wd_193 h19 dX8_count_87 ?_
    replace hf := ob_some hf
    obtain ⟨x20, h21, hf⟩ := hf
    refine V.getI (pc := 90) C kX3 (k := 4) (by decide) wd_68 h21 dX8_count_90 ?_
    obtain ⟨f1, f2⟩ := fin2 hf
    clear hf
    subst f1
    subst f2
    exact V.iret (pc := 93) C rfl dX8_count_93
  replace hf := ite_f c17 hf
  by_cases c22 : a1 = 5
  · replace hf := ite_t c22 hf
    refine V.tsIn (pc := 1) (k := 5) (t := 94) C dX8_count_1 c22 (by decide) (by decide) rfl (by decide) ?_
    refine V.aload_n (pc := 94) C dX8_count_94 0 rfl ?_
    replace hf := ob_some hf
    obtain ⟨p23, h24, hf⟩ := hf
    refine V.getR (pc := 95) C kX8 (k := 5) (by decide) wd_193 h24 dX8_count_95 ?_
    replace hf := ob_some hf
    obtain ⟨x25, h26, hf⟩ := hf
    refine V.getI (pc := 98) C kX3 (k := 5) (by decide) wd_70 h26 dX8_count_98 ?_
    obtain ⟨f1, f2⟩ := fin2 hf
    clear hf
    subst f1
    subst f2
    exact V.iret (pc := 101) C rfl dX8_count_101
  replace hf := ite_f c22 hf
  by_cases c27 : a1 = 6
  · replace hf := ite_t c27 hf
    refine V.tsIn (pc := 1) (k := 6) (t := 102) C dX8_count_1 c27 (by decide) (by decide) rfl (by decide) ?_
    refine V.aload_n (pc := 102) C dX8_count_102 0 rfl ?_
    replace hf := ob_some hf
    obtain ⟨p28, h29, hf⟩ := hf
    refine V.getR (pc := 103) C kX8 (k := 5) (by decide) wd_193 h29 dX8_count_103 ?_
    replace hf := ob_some hf
    obtain ⟨x30, h31, hf⟩ := hf
    refine V.getI (pc := 106) C kX3 (k := 1) (by decide) wd_62 h31 dX8_count_106 ?_
    obtain ⟨f1, f2⟩ := fin2 hf
    clear hf
    subst f1
    subst f2
    exact V.iret (pc := 109) C rfl dX8_count_109
  replace hf := ite_f c27 hf
  by_cases c32 : a1 = 7
  · replace hf := ite_t c32 hf
    refine V.tsIn (pc := 1) (k := 7) (t := 110) C dX8_count_1 c32 (by decide) (by decide) rfl (by decide) ?_
    refine V.aload_n (pc := 110) C dX8_count_110 0 rfl ?_
    replace hf := ob_some hf
    obtain ⟨p33, h34, hf⟩ := hf
    refine V.getR (pc := 111) C kX8 (k := 5) (by decide) wd_193 h34 dX8_count_111 ?_
    replace hf := ob_some hf
    obtain ⟨x35, h36, hf⟩ := hf
    refine V.getI (pc := 114) C kX3 (k := 8) (by decide) wd_76 h36 dX8_count_114 ?_
    obtain ⟨f1, f2⟩ := fin2 hf
    clear hf
    subst f1
    subst f2
    exact V.iret (pc := 117) C rfl dX8_count_117
  replace hf := ite_f c32 hf
  by_cases c37 : a1 = 8
  · replace hf := ite_t c37 hf
    refine V.tsIn (pc := 1) (k := 8) (t := 118) C dX8_count_1 c37 (by decide) (by decide) rfl (by decide) ?_
    refine V.aload_n (pc := 118) C dX8_count_118 0 rfl ?_
    replace hf := ob_some hf
    obtain ⟨p38, h39, hf⟩ := hf
    refine V.getR (pc := 119) C kX8 (k := 6) (by decide) wd_194 h39 dX8_count_119 ?_
    replace hf := ob_some hf
    obtain ⟨x40, h41, hf⟩ := hf
    refine V.getI (pc := 122) C kX0 (k := 0) (by decide) wd_116 h41 dX8_count_122 ?_
    obtain ⟨f1, f2⟩ := fin2 hf
    clear hf
    subst f1
    subst f2
    exact V.iret (pc := 125) C rfl dX8_count_125
  replace hf := ite_f c37 hf
  by_cases c42 : a1 = 9
  · replace hf := ite_t c42 hf
    refine V.tsIn (pc := 1) (k := 9) (t := 126) C dX8_count_1 c42 (by decide) (by decide) rfl (by decide) ?_
    refine V.aload_n (pc := 126) C dX8_count_126 0 rfl ?_
    replace hf := ob_some hf
    obtain ⟨x43, h44, hf⟩ := hf
    refine V.getI (pc := 127) C kX8 (k := 11) (by decide) wd_199 h44 dX8_count_127 ?_
    obtain ⟨f1, f2⟩ := fin2 hf
    clear hf
    subst f1
    subst f2
    exact V.iret (pc := 130) C rfl dX8_count_130
  replace hf := ite_f c42 hf
  by_cases c45 : a1 = 10
  · replace hf := ite_t c45 hf
    refine V.tsIn (pc := 1) (k := 10) (t := 131) C dX8_count_1 c45 (by decide) (by decide) rfl (by decide) ?_
    refine V.aload_n (pc := 131) C dX8_count_131 0 rfl ?_
    replace hf := ob_some hf
    obtain ⟨p46, h47, hf⟩ := hf
    refine V.getR (pc := 132) C kX8 (k := 0) (by decide) wd_188 h47 dX8_count_132 ?_
    replace hf := ob_some hf
    obtain ⟨x48, h49, hf⟩ := hf
    refine V.getI (pc := 135) C kX6 (k := 1) (by decide) wd_35 h49 dX8_count_135 ?_
    obtain ⟨f1, f2⟩ := fin2 hf
    clear hf
    subst f1
    subst f2
    exact V.iret (pc := 138) C rfl dX8_count_138
  replace hf := ite_f c45 hf
  have c1 := lv_neT (a := 0) c1 (by decide)
  have c6 := lv_neT (a := 1) c6 (by decide)
  have c9 := lv_neT (a := 2) c9 (by decide)
  have c12 := lv_neT (a := 3) c12 (by decide)
  have c17 := lv_neT (a := 4) c17 (by decide)
  have c22 := lv_neT (a := 5) c22 (by decide)
  have c27 := lv_neT (a := 6) c27 (by decide)
  have c32 := lv_neT (a := 7) c32 (by decide)
  have c37 := lv_neT (a := 8) c37 (by decide)
  have c42 := lv_neT (a := 9) c42 (by decide)
  have c45 := lv_neT (a := 10) c45 (by decide)
  refine V.tsOut (pc := 1) (t := 139) C dX8_count_1 (by omega) (by decide) ?_
  refine V.iconst (pc := 139) C dX8_count_139 (v := (-1 : Int32)) (by decide) ?_
  obtain ⟨f1, f2⟩ := fin2 hf
  clear hf
  subst f1
  subst f2
  exact V.iret (pc := 140) C rfl dX8_count_140
