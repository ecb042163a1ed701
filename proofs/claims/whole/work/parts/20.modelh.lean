theorem dX9_laysMachines_0 : decode cX9_laysMachines 0 = .ok (.aload_n 0, 1) := by decide +kernel
theorem dX9_laysMachines_1 : decode cX9_laysMachines 1 = .ok (.iconst 0, 1) := by decide +kernel
theorem dX9_laysMachines_2 : decode cX9_laysMachines 2 = .ok (.putfield 295, 3) := by decide +kernel
theorem dX9_laysMachines_5 : decode cX9_laysMachines 5 = .ok (.iconst 0, 1) := by decide +kernel
theorem dX9_laysMachines_6 : decode cX9_laysMachines 6 = .ok (.istore_n 2, 1) := by decide +kernel
theorem dX9_laysMachines_7 : decode cX9_laysMachines 7 = .ok (.iload_n 2, 1) := by decide +kernel
theorem dX9_laysMachines_8 : decode cX9_laysMachines 8 = .ok (.aload_n 0, 1) := by decide +kernel
theorem dX9_laysMachines_9 : decode cX9_laysMachines 9 = .ok (.getfield 119, 3) := by decide +kernel
theorem dX9_laysMachines_12 : decode cX9_laysMachines 12 = .ok (.if_icmp .ge 75, 3) := by decide +kernel
theorem dX9_laysMachines_15 : decode cX9_laysMachines 15 = .ok (.iconst 0, 1) := by decide +kernel
theorem dX9_laysMachines_16 : decode cX9_laysMachines 16 = .ok (.istore_n 3, 1) := by decide +kernel
theorem dX9_laysMachines_17 : decode cX9_laysMachines 17 = .ok (.iload_n 3, 1) := by decide +kernel
theorem dX9_laysMachines_18 : decode cX9_laysMachines 18 = .ok (.iconst 2, 1) := by decide +kernel
theorem dX9_laysMachines_19 : decode cX9_laysMachines 19 = .ok (.if_icmp .ge 62, 3) := by decide +kernel
theorem dX9_laysMachines_22 : decode cX9_laysMachines 22 = .ok (.iload_n 1, 1) := by decide +kernel
theorem dX9_laysMachines_23 : decode cX9_laysMachines 23 = .ok (.iload_n 2, 1) := by decide +kernel
theorem dX9_laysMachines_24 : decode cX9_laysMachines 24 = .ok (.invokestatic 298, 3) := by decide +kernel
theorem dX9_laysMachines_27 : decode cX9_laysMachines 27 = .ok (.ifCond .eq 54, 3) := by decide +kernel
theorem dX9_laysMachines_30 : decode cX9_laysMachines 30 = .ok (.iconst 0, 1) := by decide +kernel
theorem dX9_laysMachines_31 : decode cX9_laysMachines 31 = .ok (.istore 4, 2) := by decide +kernel
theorem dX9_laysMachines_33 : decode cX9_laysMachines 33 = .ok (.iload 4, 2) := by decide +kernel
theorem dX9_laysMachines_35 : decode cX9_laysMachines 35 = .ok (.iconst 4, 1) := by decide +kernel
theorem dX9_laysMachines_36 : decode cX9_laysMachines 36 = .ok (.if_icmp .ge 39, 3) := by decide +kernel
theorem dX9_laysMachines_39 : decode cX9_laysMachines 39 = .ok (.aload_n 0, 1) := by decide +kernel
theorem dX9_laysMachines_40 : decode cX9_laysMachines 40 = .ok (.getfield 57, 3) := by decide +kernel
theorem dX9_laysMachines_43 : decode cX9_laysMachines 43 = .ok (.aload_n 0, 1) := by decide +kernel
theorem dX9_laysMachines_44 : decode cX9_laysMachines 44 = .ok (.getfield 295, 3) := by decide +kernel
theorem dX9_laysMachines_47 : decode cX9_laysMachines 47 = .ok (.iload_n 2, 1) := by decide +kernel
theorem dX9_laysMachines_48 : decode cX9_laysMachines 48 = .ok (.iastore, 1) := by decide +kernel
theorem dX9_laysMachines_49 : decode cX9_laysMachines 49 = .ok (.aload_n 0, 1) := by decide +kernel
theorem dX9_laysMachines_50 : decode cX9_laysMachines 50 = .ok (.getfield 60, 3) := by decide +kernel
theorem dX9_laysMachines_53 : decode cX9_laysMachines 53 = .ok (.aload_n 0, 1) := by decide +kernel
theorem dX9_laysMachines_54 : decode cX9_laysMachines 54 = .ok (.getfield 295, 3) := by decide +kernel
theorem dX9_laysMachines_57 : decode cX9_laysMachines 57 = .ok (.iload_n 3, 1) := by decide +kernel
theorem dX9_laysMachines_58 : decode cX9_laysMachines 58 = .ok (.iastore, 1) := by decide +kernel
theorem dX9_laysMachines_59 : decode cX9_laysMachines 59 = .ok (.aload_n 0, 1) := by decide +kernel
theorem dX9_laysMachines_60 : decode cX9_laysMachines 60 = .ok (.dup, 1) := by decide +kernel
theorem dX9_laysMachines_61 : decode cX9_laysMachines 61 = .ok (.getfield 295, 3) := by decide +kernel
theorem dX9_laysMachines_64 : decode cX9_laysMachines 64 = .ok (.iconst 1, 1) := by decide +kernel
theorem dX9_laysMachines_65 : decode cX9_laysMachines 65 = .ok (.iadd, 1) := by decide +kernel
theorem dX9_laysMachines_66 : decode cX9_laysMachines 66 = .ok (.putfield 295, 3) := by decide +kernel
theorem dX9_laysMachines_69 : decode cX9_laysMachines 69 = .ok (.iinc 4 1, 3) := by decide +kernel
theorem dX9_laysMachines_72 : decode cX9_laysMachines 72 = .ok (.goto (-39), 3) := by decide +kernel
theorem dX9_laysMachines_75 : decode cX9_laysMachines 75 = .ok (.iinc 3 1, 3) := by decide +kernel
theorem dX9_laysMachines_78 : decode cX9_laysMachines 78 = .ok (.goto (-61), 3) := by decide +kernel
theorem dX9_laysMachines_81 : decode cX9_laysMachines 81 = .ok (.iinc 2 1, 3) := by decide +kernel
theorem dX9_laysMachines_84 : decode cX9_laysMachines 84 = .ok (.goto (-77), 3) := by decide +kernel
theorem dX9_laysMachines_87 : decode cX9_laysMachines 87 = .ok (.aload_n 0, 1) := by decide +kernel
theorem dX9_laysMachines_88 : decode cX9_laysMachines 88 = .ok (.iconst 0, 1) := by decide +kernel
theorem dX9_laysMachines_89 : decode cX9_laysMachines 89 = .ok (.ldc2_w 301, 3) := by decide +kernel
theorem dX9_laysMachines_92 : decode cX9_laysMachines 92 = .ok (.invokevirtual 303, 3) := by decide +kernel
theorem dX9_laysMachines_95 : decode cX9_laysMachines 95 = .ok (.iconst 0, 1) := by decide +kernel
theorem dX9_laysMachines_96 : decode cX9_laysMachines 96 = .ok (.istore_n 2, 1) := by decide +kernel
theorem dX9_laysMachines_97 : decode cX9_laysMachines 97 = .ok (.iload_n 2, 1) := by decide +kernel
theorem dX9_laysMachines_98 : decode cX9_laysMachines 98 = .ok (.aload_n 0, 1) := by decide +kernel
theorem dX9_laysMachines_99 : decode cX9_laysMachines 99 = .ok (.getfield 295, 3) := by decide +kernel
theorem dX9_laysMachines_102 : decode cX9_laysMachines 102 = .ok (.if_icmp .ge 31, 3) := by decide +kernel
theorem dX9_laysMachines_105 : decode cX9_laysMachines 105 = .ok (.aload_n 0, 1) := by decide +kernel
theorem dX9_laysMachines_106 : decode cX9_laysMachines 106 = .ok (.iload_n 2, 1) := by decide +kernel
theorem dX9_laysMachines_107 : decode cX9_laysMachines 107 = .ok (.iload_n 2, 1) := by decide +kernel
theorem dX9_laysMachines_108 : decode cX9_laysMachines 108 = .ok (.iconst 4, 1) := by decide +kernel
theorem dX9_laysMachines_109 : decode cX9_laysMachines 109 = .ok (.irem, 1) := by decide +kernel
theorem dX9_laysMachines_110 : decode cX9_laysMachines 110 = .ok (.invokevirtual 307, 3) := by decide +kernel
theorem dX9_laysMachines_113 : decode cX9_laysMachines 113 = .ok (.aload_n 0, 1) := by decide +kernel
theorem dX9_laysMachines_114 : decode cX9_laysMachines 114 = .ok (.iload_n 2, 1) := by decide +kernel
theorem dX9_laysMachines_115 : decode cX9_laysMachines 115 = .ok (.iconst 1, 1) := by decide +kernel
theorem dX9_laysMachines_116 : decode cX9_laysMachines 116 = .ok (.iadd, 1) := by decide +kernel
theorem dX9_laysMachines_117 : decode cX9_laysMachines 117 = .ok (.aload_n 0, 1) := by decide +kernel
theorem dX9_laysMachines_118 : decode cX9_laysMachines 118 = .ok (.getfield 32, 3) := by decide +kernel
theorem dX9_laysMachines_121 : decode cX9_laysMachines 121 = .ok (.iconst 0, 1) := by decide +kernel
theorem dX9_laysMachines_122 : decode cX9_laysMachines 122 = .ok (.iaload, 1) := by decide +kernel
theorem dX9_laysMachines_123 : decode cX9_laysMachines 123 = .ok (.i2l, 1) := by decide +kernel
theorem dX9_laysMachines_124 : decode cX9_laysMachines 124 = .ok (.invokevirtual 303, 3) := by decide +kernel
theorem dX9_laysMachines_127 : decode cX9_laysMachines 127 = .ok (.iinc 2 1, 3) := by decide +kernel
theorem dX9_laysMachines_130 : decode cX9_laysMachines 130 = .ok (.goto (-33), 3) := by decide +kernel
theorem dX9_laysMachines_133 : decode cX9_laysMachines 133 = .ok (.aload_n 0, 1) := by decide +kernel
theorem dX9_laysMachines_134 : decode cX9_laysMachines 134 = .ok (.iconst 0, 1) := by decide +kernel
theorem dX9_laysMachines_135 : decode cX9_laysMachines 135 = .ok (.putfield 292, 3) := by decide +kernel
theorem dX9_laysMachines_138 : decode cX9_laysMachines 138 = .ok (.aload_n 0, 1) := by decide +kernel
theorem dX9_laysMachines_139 : decode cX9_laysMachines 139 = .ok (.iconst 0, 1) := by decide +kernel
theorem dX9_laysMachines_140 : decode cX9_laysMachines 140 = .ok (.iconst (-1), 1) := by decide +kernel
theorem dX9_laysMachines_141 : decode cX9_laysMachines 141 = .ok (.iconst 0, 1) := by decide +kernel
theorem dX9_laysMachines_142 : decode cX9_laysMachines 142 = .ok (.invokevirtual 310, 3) := by decide +kernel
theorem dX9_laysMachines_145 : decode cX9_laysMachines 145 = .ok (.return_, 1) := by decide +kernel
def fX9_laysMachines_33 (k7 : PH → Nat → Int32 → Int32 → Option (Unit × PH)) (k17 : PH → Nat → Int32 → Int32 → Int32 → Option (Unit × PH)) : Nat → PH → Nat → Int32 → Int32 → Int32 → Int32 → Option (Unit × PH)
  | 0, _, _, _, _, _, _ => none
  | n + 1, g, v0, v1, v2, v3, v4 =>
  if (4 : Int32) ≤ v4 then (k17 g v0 v1 v2 (v3 + (1 : Int32))) else
  ((getR g v0 9 31).bind fun p2 =>
  ((getI g v0 9 30).bind fun x4 =>
  ((stI g p2 0 x4 v2).bind fun g6 =>
  ((getR g6 v0 9 32).bind fun p8 =>
  ((getI g6 v0 9 30).bind fun x10 =>
  ((stI g6 p8 0 x10 v3).bind fun g12 =>
  ((getI g12 v0 9 30).bind fun x14 =>
  ((putV g12 v0 9 30 (.int (x14 + (1 : Int32)))).bind fun g16 =>
  (fX9_laysMachines_33 k7 k17 n g16 v0 v1 v2 v3 (v4 + (1 : Int32)))))))))))
set_option maxHeartbeats 4000000 in
set_option maxRecDepth 100000 in
theorem bX9_laysMachines_33 {K : HK} {E : HE} {r : Unit} {g' : PH} {k7 : PH → Nat → Int32 → Int32 → Option (Unit × PH)} {k17 : PH → Nat → Int32 → Int32 → Int32 → Option (Unit × PH)} (C : VC K E 5 cX9_laysMachines RX9 none) (hk7 : ∀ (g : PH) (v0 : Nat) (v1 : Int32) (v2 : Int32), k7 g v0 v1 v2 = some (r, g') → V K E (hRm 5 117 0 0) 5 (hZ K E none g' 0 0) 0 0 (kS K) g 7 [(0, .ref v0), (1, .int v1), (2, .int v2)] []) (hk17 : ∀ (g : PH) (v0 : Nat) (v1 : Int32) (v2 : Int32) (v3 : Int32), k17 g v0 v1 v2 v3 = some (r, g') → V K E (hRm 5 117 0 0) 5 (hZ K E none g' 0 0) 0 0 (kS K) g 17 [(0, .ref v0), (1, .int v1), (2, .int v2), (3, .int v3)] []) : ∀ (n : Nat) (g : PH) (v0 : Nat) (v1 : Int32) (v2 : Int32) (v3 : Int32) (v4 : Int32), fX9_laysMachines_33 k7 k17 n g v0 v1 v2 v3 v4 = some (r, g') → V K E (hRm 5 117 0 0) 5 (hZ K E none g' 0 0) 0 0 (kS K) g 33 [(0, .ref v0), (1, .int v1), (2, .int v2), (3, .int v3), (4, .int v4)] [] := by
  intro n
  induction n with
  | zero =>
    intro g v0 v1 v2 v3 v4 hf
    rw [fX9_laysMachines_33] at hf
    cases hf
  | succ n ih =>
    intro g v0 v1 v2 v3 v4 hf
    rw [fX9_laysMachines_33] at hf
    refine V.iload (pc := 33) C dX9_laysMachines_33 4 rfl ?_
    refine V.iconst (pc := 35) C dX9_laysMachines_35 (v := (4 : Int32)) (by decide) ?_
    refine V.icmp_ge (pc := 36) (t := 75) C dX9_laysMachines_36 (by decide) (fun c1 => ?_) (fun c1 => ?_)
    · replace hf := ite_t c1 hf
      refine V.iinc (pc := 75) (v := (v3 + (1 : Int32))) (L' := [(3, .int (v3 + (1 : Int32))), (0, .ref v0), (1, .int v1), (2, .int v2), (4, .int v4)]) C dX9_laysMachines_75 3 rfl rfl (by decide) rfl ?_
      refine V.goto (pc := 78) (t := 17) C dX9_laysMachines_78 (by decide) ?_
      refine V.sub (L' := [(0, .ref v0), (1, .int v1), (2, .int v2), (3, .int (v3 + (1 : Int32)))]) [1, 2, 3, 0] rfl ?_
      exact hk17 _ _ _ _ _ hf
    replace hf := ite_f c1 hf
    refine V.aload_n (pc := 39) C dX9_laysMachines_39 0 rfl ?_
    replace hf := ob_some hf
    obtain ⟨p2, h3, hf⟩ := hf
    refine V.getR (pc := 40) C kX9 (k := 31) (by decide) wd_1081 h3 dX9_laysMachines_40 ?_
    refine V.aload_n (pc := 43) C dX9_laysMachines_43 0 rfl ?_
    replace hf := ob_some hf
    obtain ⟨x4, h5, hf⟩ := hf
    refine V.getI (pc := 44) C kX9 (k := 30) (by decide) wd_1080 h5 dX9_laysMachines_44 ?_
    refine V.iload_n (pc := 47) C dX9_laysMachines_47 2 rfl ?_
    replace hf := ob_some hf
    obtain ⟨g6, h7, hf⟩ := hf
    refine V.iast (pc := 48) C h7 dX9_laysMachines_48 ?_
    refine V.aload_n (pc := 49) C dX9_laysMachines_49 0 rfl ?_
    replace hf := ob_some hf
    obtain ⟨p8, h9, hf⟩ := hf
    refine V.getR (pc := 50) C kX9 (k := 32) (by decide) wd_1082 h9 dX9_laysMachines_50 ?_
    refine V.aload_n (pc := 53) C dX9_laysMachines_53 0 rfl ?_
    replace hf := ob_some hf
    obtain ⟨x10, h11, hf⟩ := hf
    refine V.getI (pc := 54) C kX9 (k := 30) (by decide) wd_1080 h11 dX9_laysMachines_54 ?_
    refine V.iload_n (pc := 57) C dX9_laysMachines_57 3 rfl ?_
    replace hf := ob_some hf
    obtain ⟨g12, h13, hf⟩ := hf
    refine V.iast (pc := 58) C h13 dX9_laysMachines_58 ?_
    refine V.aload_n (pc := 59) C dX9_laysMachines_59 0 rfl ?_
    refine V.dup (pc := 60) C dX9_laysMachines_60 rfl ?_
    replace hf := ob_some hf
    obtain ⟨x14, h15, hf⟩ := hf
    refine V.getI (pc := 61) C kX9 (k := 30) (by decide) wd_1080 h15 dX9_laysMachines_61 ?_
    refine V.iconst (pc := 64) C dX9_laysMachines_64 (v := (1 : Int32)) (by decide) ?_
    refine V.iadd (pc := 65) C dX9_laysMachines_65 ?_
    replace hf := ob_some hf
    obtain ⟨g16, h17, hf⟩ := hf
    refine V.putX (pc := 66) C kX9 (k := 30) (by decide) wd_1080 rfl rfl rfl h17 dX9_laysMachines_66 ?_
    refine V.iinc (pc := 69) (v := (v4 + (1 : Int32))) (L' := [(4, .int (v4 + (1 : Int32))), (0, .ref v0), (1, .int v1), (2, .int v2), (3, .int v3)]) C dX9_laysMachines_69 4 rfl rfl (by decide) rfl ?_
    refine V.goto (pc := 72) (t := 33) C dX9_laysMachines_72 (by decide) ?_
    refine V.sub (L' := [(0, .ref v0), (1, .int v1), (2, .int v2), (3, .int v3), (4, .int (v4 + (1 : Int32)))]) [1, 2, 3, 4, 0] rfl ?_
    exact ih _ _ _ _ _ _ hf
def fX9_laysMachines_81 (k7 : PH → Nat → Int32 → Int32 → Option (Unit × PH)) (g : PH) (v0 : Nat) (v1 : Int32) (v2 : Int32) : Option (Unit × PH) :=
  k7 g v0 v1 (v2 + (1 : Int32))
set_option maxHeartbeats 4000000 in
set_option maxRecDepth 100000 in
theorem bX9_laysMachines_81 {K : HK} {E : HE} {r : Unit} {g' : PH} {k7 : PH → Nat → Int32 → Int32 → Option (Unit × PH)} (C : VC K E 5 cX9_laysMachines RX9 none) (hk7 : ∀ (g : PH) (v0 : Nat) (v1 : Int32) (v2 : Int32), k7 g v0 v1 v2 = some (r, g') → V K E (hRm 5 117 0 0) 5 (hZ K E none g' 0 0) 0 0 (kS K) g 7 [(0, .ref v0), (1, .int v1), (2, .int v2)] []) {g : PH} {v0 : Nat} {v1 : Int32} {v2 : Int32} (hf : fX9_laysMachines_81 k7 g v0 v1 v2 = some (r, g')) : V K E (hRm 5 117 0 0) 5 (hZ K E none g' 0 0) 0 0 (kS K) g 81 [(0, .ref v0), (1, .int v1), (2, .int v2)] [] := by
  unfold fX9_laysMachines_81 at hf
  refine V.iinc (pc := 81) (v := (v2 + (1 : Int32))) (L' := [(2, .int (v2 + (1 : Int32))), (0, .ref v0), (1, .int v1)]) C dX9_laysMachines_81 2 rfl rfl (by decide) rfl ?_
  refine V.goto (pc := 84) (t := 7) C dX9_laysMachines_84 (by decide) ?_
  refine V.sub (L' := [(0, .ref v0), (1, .int v1), (2, .int (v2 + (1 : Int32)))]) [1, 2, 0] rfl ?_
  exact hk7 _ _ _ _ hf
def fX9_laysMachines_17 (k7 : PH → Nat → Int32 → Int32 → Option (Unit × PH)) : Nat → PH → Nat → Int32 → Int32 → Int32 → Option (Unit × PH)
  | 0, _, _, _, _, _ => none
  | n + 1, g, v0, v1, v2, v3 =>
  if (2 : Int32) ≤ v3 then (fX9_laysMachines_81 (k7) g v0 v1 v2) else
  ((fX9_has g v1 v2).bind fun q2 =>
  (if q2.1 = 0 then (fX9_laysMachines_81 (k7) q2.2 v0 v1 v2) else
  (fX9_laysMachines_33 (k7) (fX9_laysMachines_17 k7 n) FUEL q2.2 v0 v1 v2 v3 (0 : Int32))))
set_option maxHeartbeats 4000000 in
set_option maxRecDepth 100000 in
theorem bX9_laysMachines_17 {K : HK} {E : HE} {r : Unit} {g' : PH} {k7 : PH → Nat → Int32 → Int32 → Option (Unit × PH)} (C : VC K E 5 cX9_laysMachines RX9 none) (hk7 : ∀ (g : PH) (v0 : Nat) (v1 : Int32) (v2 : Int32), k7 g v0 v1 v2 = some (r, g') → V K E (hRm 5 117 0 0) 5 (hZ K E none g' 0 0) 0 0 (kS K) g 7 [(0, .ref v0), (1, .int v1), (2, .int v2)] []) : ∀ (n : Nat) (g : PH) (v0 : Nat) (v1 : Int32) (v2 : Int32) (v3 : Int32), fX9_laysMachines_17 k7 n g v0 v1 v2 v3 = some (r, g') → V K E (hRm 5 117 0 0) 5 (hZ K E none g' 0 0) 0 0 (kS K) g 17 [(0, .ref v0), (1, .int v1), (2, .int v2), (3, .int v3)] [] := by
  intro n
  induction n with
  | zero =>
    intro g v0 v1 v2 v3 hf
    rw [fX9_laysMachines_17] at hf
    cases hf
  | succ n ih =>
    intro g v0 v1 v2 v3 hf
    rw [fX9_laysMachines_17] at hf
    refine V.iload_n (pc := 17) C dX9_laysMachines_17 3 rfl ?_
    refine V.iconst (pc := 18) C dX9_laysMachines_18 (v := (2 : Int32)) (by decide) ?_
    refine V.icmp_ge (pc := 19) (t := 81) C dX9_laysMachines_19 (by decide) (fun c1 => ?_) (fun c1 => ?_)
    · replace hf := ite_t c1 hf
      refine V.sub (L' := [(0, .ref v0), (1, .int v1), (2, .int v2)]) [0, 1, 2] rfl ?_
      exact bX9_laysMachines_81 C hk7 hf
    replace hf := ite_f c1 hf
    refine V.iload_n (pc := 22) C dX9_laysMachines_22 1 rfl ?_
    refine V.iload_n (pc := 23) C dX9_laysMachines_23 2 rfl ?_
    replace hf := ob_some hf
    obtain ⟨q2, h3, hf⟩ := hf
    refine V.callS0i (pc := 24) C hyX9_has wd_1429 (mX9_has (r := q2.1) (g' := q2.2) K.2.1 E (kS K) h3) rfl ⟨Nat.le_of_ble_eq_true rfl, Nat.le_of_ble_eq_true rfl⟩ (Nat.le_of_ble_eq_true rfl) dX9_laysMachines_24 ⟨Nat.zero_le _, Nat.zero_le _⟩ rfl ?_
    refine V.if_eq (pc := 27) (t := 81) C dX9_laysMachines_27 (by decide) (fun c4 => ?_) (fun c4 => ?_)
    · replace hf := ite_t c4 hf
      refine V.sub (L' := [(0, .ref v0), (1, .int v1), (2, .int v2)]) [0, 1, 2] rfl ?_
      exact bX9_laysMachines_81 C hk7 hf
    replace hf := ite_f c4 hf
    refine V.iconst (pc := 30) C dX9_laysMachines_30 (v := (0 : Int32)) (by decide) ?_
    refine V.istore (pc := 31) (L' := [(4, .int (0 : Int32)), (0, .ref v0), (1, .int v1), (2, .int v2), (3, .int v3)]) C dX9_laysMachines_31 (by decide) rfl ?_
    refine V.sub (L' := [(0, .ref v0), (1, .int v1), (2, .int v2), (3, .int v3), (4, .int (0 : Int32))]) [1, 2, 3, 4, 0] rfl ?_
    exact bX9_laysMachines_33 C hk7 ih _ _ _ _ _ _ _ hf
def fX9_laysMachines_97  : Nat → PH → Nat → Int32 → Option (Unit × PH)
  | 0, _, _, _ => none
  | n + 1, g, v0, v2 =>
  (getI g v0 9 30).bind fun x1 =>
  (if x1 ≤ v2 then ((putV g v0 9 29 (.int (0 : Int32))).bind fun g4 =>
  ((fX9_comes g4 v0 (0 : Int32) (-1 : Int32) (0 : Int32)).bind fun q6 =>
  (some ((), q6.2)))) else
  ((fX9_triesMachine g v0 v2 (v2 - v2 / (4 : Int32) * (4 : Int32))).bind fun q8 =>
  ((getR q8.2 v0 9 16).bind fun p10 =>
  ((ldI q8.2 p10 0 (0 : Int32)).bind fun x12 =>
  ((fX9_builds q8.2 v0 (v2 + (1 : Int32)) x12.toInt64).bind fun q14 =>
  (fX9_laysMachines_97 n q14.2 v0 (v2 + (1 : Int32))))))))
set_option maxHeartbeats 4000000 in
set_option maxRecDepth 100000 in
theorem bX9_laysMachines_97 {K : HK} {E : HE} {r : Unit} {g' : PH}  (C : VC K E 5 cX9_laysMachines RX9 none)  : ∀ (n : Nat) (g : PH) (v0 : Nat) (v2 : Int32), fX9_laysMachines_97  n g v0 v2 = some (r, g') → V K E (hRm 5 117 0 0) 5 (hZ K E none g' 0 0) 0 0 (kS K) g 97 [(0, .ref v0), (2, .int v2)] [] := by
  intro n
  induction n with
  | zero =>
    intro g v0 v2 hf
    rw [fX9_laysMachines_97] at hf
    cases hf
  | succ n ih =>
    intro g v0 v2 hf
    rw [fX9_laysMachines_97] at hf
    refine V.iload_n (pc := 97) C dX9_laysMachines_97 1 rfl ?_
    refine V.aload_n (pc := 98) C dX9_laysMachines_98 0 rfl ?_
    replace hf := ob_some hf
    obtain ⟨x1, h2, hf⟩ := hf
    refine V.getI (pc := 99) C kX9 (k := 30) (by decide) wd_1080 h2 dX9_laysMachines_99 ?_
    refine V.icmp_ge (pc := 102) (t := 133) C dX9_laysMachines_102 (by decide) (fun c3 => ?_) (fun c3 => ?_)
    · replace hf := ite_t c3 hf
      refine V.aload_n (pc := 133) C dX9_laysMachines_133 0 rfl ?_
      refine V.iconst (pc := 134) C dX9_laysMachines_134 (v := (0 : Int32)) (by decide) ?_
      replace hf := ob_some hf
      obtain ⟨g4, h5, hf⟩ := hf
      refine V.putX (pc := 135) C kX9 (k := 29) (by decide) wd_1079 rfl rfl rfl h5 dX9_laysMachines_135 ?_
      refine V.aload_n (pc := 138) C dX9_laysMachines_138 0 rfl ?_
      refine V.iconst (pc := 139) C dX9_laysMachines_139 (v := (0 : Int32)) (by decide) ?_
      refine V.iconst (pc := 140) C dX9_laysMachines_140 (v := (-1 : Int32)) (by decide) ?_
      refine V.iconst (pc := 141) C dX9_laysMachines_141 (v := (0 : Int32)) (by decide) ?_
      replace hf := ob_some hf
      obtain ⟨q6, h7, hf⟩ := hf
      refine V.callV0v (pc := 142) C hyX9_comes wd_1441 (mX9_comes (r := q6.1) (g' := q6.2) K.2.1 E (kS K) h7) rfl rfl rfl (oX9_comes h7) ⟨Nat.le_of_ble_eq_true rfl, Nat.le_of_ble_eq_true rfl⟩ (Nat.le_of_ble_eq_true rfl) dX9_laysMachines_142 ⟨Nat.zero_le _, Nat.zero_le _⟩ rfl ?_
      obtain ⟨f1, f2⟩ := fin2 hf
      clear hf
      subst f1
      subst f2
      exact V.vret (pc := 145) C rfl dX9_laysMachines_145
    replace hf := ite_f c3 hf
    refine V.aload_n (pc := 105) C dX9_laysMachines_105 0 rfl ?_
    refine V.iload_n (pc := 106) C dX9_laysMachines_106 1 rfl ?_
    refine V.iload_n (pc := 107) C dX9_laysMachines_107 1 rfl ?_
    refine V.iconst (pc := 108) C dX9_laysMachines_108 (v := (4 : Int32)) (by decide) ?_
    refine V.irem (pc := 109) C dX9_laysMachines_109 (by decide) ?_
    replace hf := ob_some hf
    obtain ⟨q8, h9, hf⟩ := hf
    refine V.callV0v (pc := 110) C hyX9_triesMachine wd_1437 (mX9_triesMachine (r := q8.1) (g' := q8.2) K.2.1 E (kS K) h9) rfl rfl rfl (oX9_triesMachine h9) ⟨Nat.le_of_ble_eq_true rfl, Nat.le_of_ble_eq_true rfl⟩ (Nat.le_of_ble_eq_true rfl) dX9_laysMachines_110 ⟨Nat.zero_le _, Nat.zero_le _⟩ rfl ?_
    refine V.aload_n (pc := 113) C dX9_laysMachines_113 0 rfl ?_
    refine V.iload_n (pc := 114) C dX9_laysMachines_114 1 rfl ?_
    refine V.iconst (pc := 115) C dX9_laysMachines_115 (v := (1 : Int32)) (by decide) ?_
    refine V.iadd (pc := 116) C dX9_laysMachines_116 ?_
    refine V.aload_n (pc := 117) C dX9_laysMachines_117 0 rfl ?_
    replace hf := ob_some hf
    obtain ⟨p10, h11, hf⟩ := hf
    refine V.getR (pc := 118) C kX9 (k := 16) (by decide) wd_1066 h11 dX9_laysMachines_118 ?_
    refine V.iconst (pc := 121) C dX9_laysMachines_121 (v := (0 : Int32)) (by decide) ?_
    replace hf := ob_some hf
    obtain ⟨x12, h13, hf⟩ := hf
    refine V.iald (pc := 122) C h13 dX9_laysMachines_122 ?_
    refine V.i2l (pc := 123) C dX9_laysMachines_123 ?_
    replace hf := ob_some hf
    obtain ⟨q14, h15, hf⟩ := hf
    refine V.callV0v (pc := 124) C hyX9_builds wd_1433 (mX9_builds (r := q14.1) (g' := q14.2) K.2.1 E (kS K) h15) rfl rfl rfl (oX9_builds h15) ⟨Nat.le_of_ble_eq_true rfl, Nat.le_of_ble_eq_true rfl⟩ (Nat.le_of_ble_eq_true rfl) dX9_laysMachines_124 ⟨Nat.zero_le _, Nat.zero_le _⟩ rfl ?_
    refine V.iinc (pc := 127) (v := (v2 + (1 : Int32))) (L' := [(2, .int (v2 + (1 : Int32))), (0, .ref v0)]) C dX9_laysMachines_127 1 rfl rfl (by decide) rfl ?_
    refine V.goto (pc := 130) (t := 97) C dX9_laysMachines_130 (by decide) ?_
    refine V.sub (L' := [(0, .ref v0), (2, .int (v2 + (1 : Int32)))]) [1, 0] rfl ?_
    exact ih _ _ _ hf
def fX9_laysMachines_7  : Nat → PH → Nat → Int32 → Int32 → Option (Unit × PH)
  | 0, _, _, _, _ => none
  | n + 1, g, v0, v1, v2 =>
  (getI g v0 9 7).bind fun x1 =>
  (if x1 ≤ v2 then ((fX9_builds g v0 (0 : Int32) (2 : Int64)).bind fun q4 =>
  (fX9_laysMachines_97 FUEL q4.2 v0 (0 : Int32))) else
  (fX9_laysMachines_17 (fX9_laysMachines_7 n) FUEL g v0 v1 v2 (0 : Int32)))
set_option maxHeartbeats 4000000 in
set_option maxRecDepth 100000 in
theorem bX9_laysMachines_7 {K : HK} {E : HE} {r : Unit} {g' : PH}  (C : VC K E 5 cX9_laysMachines RX9 none)  : ∀ (n : Nat) (g : PH) (v0 : Nat) (v1 : Int32) (v2 : Int32), fX9_laysMachines_7  n g v0 v1 v2 = some (r, g') → V K E (hRm 5 117 0 0) 5 (hZ K E none g' 0 0) 0 0 (kS K) g 7 [(0, .ref v0), (1, .int v1), (2, .int v2)] [] := by
  intro n
  induction n with
  | zero =>
    intro g v0 v1 v2 hf
    rw [fX9_laysMachines_7] at hf
    cases hf
  | succ n ih =>
    intro g v0 v1 v2 hf
    rw [fX9_laysMachines_7] at hf
    refine V.iload_n (pc := 7) C dX9_laysMachines_7 2 rfl ?_
    refine V.aload_n (pc := 8) C dX9_laysMachines_8 0 rfl ?_
    replace hf := ob_some hf
    obtain ⟨x1, h2, hf⟩ := hf
    refine V.getI (pc := 9) C kX9 (k := 7) (by decide) wd_1057 h2 dX9_laysMachines_9 ?_
    refine V.icmp_ge (pc := 12) (t := 87) C dX9_laysMachines_12 (by decide) (fun c3 => ?_) (fun c3 => ?_)
    · replace hf := ite_t c3 hf
      refine V.aload_n (pc := 87) C dX9_laysMachines_87 0 rfl ?_
      refine V.iconst (pc := 88) C dX9_laysMachines_88 (v := (0 : Int32)) (by decide) ?_
      refine V.ldc2 (pc := 89) C wd_1432 dX9_laysMachines_89 ?_
      replace hf := ob_some hf
      obtain ⟨q4, h5, hf⟩ := hf
      refine V.callV0v (pc := 92) C hyX9_builds wd_1433 (mX9_builds (r := q4.1) (g' := q4.2) K.2.1 E (kS K) h5) rfl rfl rfl (oX9_builds h5) ⟨Nat.le_of_ble_eq_true rfl, Nat.le_of_ble_eq_true rfl⟩ (Nat.le_of_ble_eq_true rfl) dX9_laysMachines_92 ⟨Nat.zero_le _, Nat.zero_le _⟩ rfl ?_
      refine V.iconst (pc := 95) C dX9_laysMachines_95 (v := (0 : Int32)) (by decide) ?_
      refine V.istore_n (pc := 96) (L' := [(2, .int (0 : Int32)), (0, .ref v0), (1, .int v1)]) C dX9_laysMachines_96 (by decide) rfl ?_
      refine V.sub (L' := [(0, .ref v0), (2, .int (0 : Int32))]) [1, 0] rfl ?_
      exact bX9_laysMachines_97 C  _ _ _ _ hf
    replace hf := ite_f c3 hf
    refine V.iconst (pc := 15) C dX9_laysMachines_15 (v := (0 : Int32)) (by decide) ?_
    refine V.istore_n (pc := 16) (L' := [(3, .int (0 : Int32)), (0, .ref v0), (1, .int v1), (2, .int v2)]) C dX9_laysMachines_16 (by decide) rfl ?_
    refine V.sub (L' := [(0, .ref v0), (1, .int v1), (2, .int v2), (3, .int (0 : Int32))]) [1, 2, 3, 0] rfl ?_
    exact bX9_laysMachines_17 C ih _ _ _ _ _ _ hf
def fX9_laysMachines (g : PH) (a0 : Nat) (a1 : Int32) : Option (Unit × PH) :=
  okb (isO g a0 9) ((putV g a0 9 30 (.int (0 : Int32))).bind fun g1 =>
  (fX9_laysMachines_7 FUEL g1 a0 a1 (0 : Int32)))
theorem oX9_laysMachines {g : PH} {a0 : Nat} {a1 : Int32} {q : (Unit × PH)} (h : fX9_laysMachines g a0 a1 = some q) : isO g a0 9 = true := by unfold fX9_laysMachines at h; exact (okb_some h).1
theorem hyX9_laysMachines : hMet yX9_laysMachines RX9 cX9_laysMachines 5 none 1 := ⟨wd_1428, wd_1427, ws_97, wd_7, rfl, by decide +kernel, by decide +kernel, by decide +kernel⟩
set_option maxHeartbeats 4000000 in
set_option maxRecDepth 100000 in
theorem mX9_laysMachines (l : Launch) (E : HE) (sz : Nat) {g g' : PH} {a0 : Nat} {a1 : Int32} {r : Unit} (hf : fX9_laysMachines g a0 a1 = some (r, g')) : hM l E yX9_laysMachines cX9_laysMachines 5 none 5 117 0 0 sz g [.ref a0, .int a1] none g' := by
  refine hM.of (by decide) (Nat.le_of_ble_eq_true rfl) (fun K hl C hin hsz => ?_)
  subst hl
  subst hsz
  have C : VC K E 5 cX9_laysMachines RX9 none := C
  unfold fX9_laysMachines at hf
  replace hf := okb_some hf
  obtain ⟨ho, hf⟩ := hf
  refine V.start (L' := [(0, .ref a0), (1, .int a1)]) rfl ?_
  refine V.aload_n (pc := 0) C dX9_laysMachines_0 0 rfl ?_
  refine V.iconst (pc := 1) C dX9_laysMachines_1 (v := (0 : Int32)) (by decide) ?_
  replace hf := ob_some hf
  obtain ⟨g1, h2, hf⟩ := hf
  refine V.putX (pc := 2) C kX9 (k := 30) (by decide) wd_1080 rfl rfl rfl h2 dX9_laysMachines_2 ?_
  refine V.iconst (pc := 5) C dX9_laysMachines_5 (v := (0 : Int32)) (by decide) ?_
  refine V.istore_n (pc := 6) (L' := [(2, .int (0 : Int32)), (0, .ref a0), (1, .int a1)]) C dX9_laysMachines_6 (by decide) rfl ?_
  refine V.sub (L' := [(0, .ref a0), (1, .int a1), (2, .int (0 : Int32))]) [1, 2, 0] rfl ?_
  exact bX9_laysMachines_7 C  _ _ _ _ _ hf
theorem dX9_stepOp_0 : decode cX9_stepOp 0 = .ok (.iload_n 1, 1) := by decide +kernel
theorem dX9_stepOp_1 : decode cX9_stepOp 1 = .ok (.istore 4, 2) := by decide +kernel
theorem dX9_stepOp_3 : decode cX9_stepOp 3 = .ok (.iload_n 2, 1) := by decide +kernel
theorem dX9_stepOp_4 : decode cX9_stepOp 4 = .ok (.iconst 1, 1) := by decide +kernel
theorem dX9_stepOp_5 : decode cX9_stepOp 5 = .ok (.isub, 1) := by decide +kernel
theorem dX9_stepOp_6 : decode cX9_stepOp 6 = .ok (.istore 5, 2) := by decide +kernel
theorem dX9_stepOp_8 : decode cX9_stepOp 8 = .ok (.iload 5, 2) := by decide +kernel
theorem dX9_stepOp_10 : decode cX9_stepOp 10 = .ok (.iload_n 3, 1) := by decide +kernel
theorem dX9_stepOp_11 : decode cX9_stepOp 11 = .ok (.if_icmp .le 15, 3) := by decide +kernel
theorem dX9_stepOp_14 : decode cX9_stepOp 14 = .ok (.iload 4, 2) := by decide +kernel
theorem dX9_stepOp_16 : decode cX9_stepOp 16 = .ok (.iconst 3, 1) := by decide +kernel
theorem dX9_stepOp_17 : decode cX9_stepOp 17 = .ok (.idiv, 1) := by decide +kernel
theorem dX9_stepOp_18 : decode cX9_stepOp 18 = .ok (.istore 4, 2) := by decide +kernel
theorem dX9_stepOp_20 : decode cX9_stepOp 20 = .ok (.iinc 5 (-1), 3) := by decide +kernel
theorem dX9_stepOp_23 : decode cX9_stepOp 23 = .ok (.goto (-15), 3) := by decide +kernel
theorem dX9_stepOp_26 : decode cX9_stepOp 26 = .ok (.iload 4, 2) := by decide +kernel
theorem dX9_stepOp_28 : decode cX9_stepOp 28 = .ok (.iconst 3, 1) := by decide +kernel
theorem dX9_stepOp_29 : decode cX9_stepOp 29 = .ok (.irem, 1) := by decide +kernel
theorem dX9_stepOp_30 : decode cX9_stepOp 30 = .ok (.ireturn, 1) := by decide +kernel
def fX9_stepOp_8  : Nat → PH → Int32 → Int32 → Int32 → Option (Int32 × PH)
  | 0, _, _, _, _ => none
  | n + 1, g, v3, v4, v5 =>
  if v5 ≤ v3 then (some ((v4 - v4 / (3 : Int32) * (3 : Int32)), g)) else
  (fX9_stepOp_8 n g v3 (v4 / (3 : Int32)) (v5 + (-1 : Int32)))
set_option maxHeartbeats 4000000 in
set_option maxRecDepth 100000 in
theorem bX9_stepOp_8 {K : HK} {E : HE} {r : Int32} {g' : PH}  (C : VC K E 6 cX9_stepOp RX9 (some .int))  : ∀ (n : Nat) (g : PH) (v3 : Int32) (v4 : Int32) (v5 : Int32), fX9_stepOp_8  n g v3 v4 v5 = some (r, g') → V K E (hRm 0 0 0 0) 6 (hZ K E (some (.int r)) g' 0 0) 0 0 (kS K) g 8 [(3, .int v3), (4, .int v4), (5, .int v5)] [] := by
  intro n
  induction n with
  | zero =>
    intro g v3 v4 v5 hf
    rw [fX9_stepOp_8] at hf
    cases hf
  | succ n ih =>
    intro g v3 v4 v5 hf
    rw [fX9_stepOp_8] at hf
    refine V.iload (pc := 8) C dX9_stepOp_8 2 rfl ?_
    refine V.iload_n (pc := 10) C dX9_stepOp_10 0 rfl ?_
    refine V.icmp_le (pc := 11) (t := 26) C dX9_stepOp_11 (by decide) (fun c1 => ?_) (fun c1 => ?_)
    · replace hf := ite_t c1 hf
      refine V.iload (pc := 26) C dX9_stepOp_26 1 rfl ?_
      refine V.iconst (pc := 28) C dX9_stepOp_28 (v := (3 : Int32)) (by decide) ?_
      refine V.irem (pc := 29) C dX9_stepOp_29 (by decide) ?_
      obtain ⟨f1, f2⟩ := fin2 hf
      clear hf
      subst f1
      subst f2
      exact V.iret (pc := 30) C rfl dX9_stepOp_30
    replace hf := ite_f c1 hf
    refine V.iload (pc := 14) C dX9_stepOp_14 1 rfl ?_
    refine V.iconst (pc := 16) C dX9_stepOp_16 (v := (3 : Int32)) (by decide) ?_
    refine V.idiv (pc := 17) C dX9_stepOp_17 (by decide) ?_
    refine V.istore (pc := 18) (L' := [(4, .int (v4 / (3 : Int32))), (3, .int v3), (5, .int v5)]) C dX9_stepOp_18 (by decide) rfl ?_
    refine V.iinc (pc := 20) (v := (v5 + (-1 : Int32))) (L' := [(5, .int (v5 + (-1 : Int32))), (4, .int (v4 / (3 : Int32))), (3, .int v3)]) C dX9_stepOp_20 2 rfl rfl (by decide) rfl ?_
    refine V.goto (pc := 23) (t := 8) C dX9_stepOp_23 (by decide) ?_
    refine V.sub (L' := [(3, .int v3), (4, .int (v4 / (3 : Int32))), (5, .int (v5 + (-1 : Int32)))]) [2, 1, 0] rfl ?_
    exact ih _ _ _ _ hf
def fX9_stepOp (g : PH) (a0 : Nat) (a1 : Int32) (a2 : Int32) (a3 : Int32) : Option (Int32 × PH) :=
  okb (isO g a0 9) (fX9_stepOp_8 FUEL g a3 a1 (a2 - (1 : Int32)))
theorem oX9_stepOp {g : PH} {a0 : Nat} {a1 : Int32} {a2 : Int32} {a3 : Int32} {q : (Int32 × PH)} (h : fX9_stepOp g a0 a1 a2 a3 = some q) : isO g a0 9 = true := by unfold fX9_stepOp at h; exact (okb_some h).1
theorem hyX9_stepOp : hMet yX9_stepOp RX9 cX9_stepOp 6 (some .int) 3 := ⟨wd_1463, wd_1462, ws_104, wd_7, rfl, by decide +kernel, by decide +kernel, by decide +kernel⟩
set_option maxHeartbeats 4000000 in
set_option maxRecDepth 100000 in
theorem mX9_stepOp (l : Launch) (E : HE) (sz : Nat) {g g' : PH} {a0 : Nat} {a1 : Int32} {a2 : Int32} {a3 : Int32} {r : Int32} (hf : fX9_stepOp g a0 a1 a2 a3 = some (r, g')) : hM l E yX9_stepOp cX9_stepOp 6 (some .int) 0 0 0 0 sz g [.ref a0, .int a1, .int a2, .int a3] (some (.int r)) g' := by
  refine hM.of (by decide) (Nat.le_of_ble_eq_true rfl) (fun K hl C hin hsz => ?_)
  subst hl
  subst hsz
  have C : VC K E 6 cX9_stepOp RX9 (some .int) := C
  unfold fX9_stepOp at hf
  replace hf := okb_some hf
  obtain ⟨ho, hf⟩ := hf
  refine V.start (L' := [(0, .ref a0), (1, .int a1), (2, .int a2), (3, .int a3)]) rfl ?_
  refine V.iload_n (pc := 0) C dX9_stepOp_0 1 rfl ?_
  refine V.istore (pc := 1) (L' := [(4, .int a1), (0, .ref a0), (1, .int a1), (2, .int a2), (3, .int a3)]) C dX9_stepOp_1 (by decide) rfl ?_
  refine V.iload_n (pc := 3) C dX9_stepOp_3 3 rfl ?_
  refine V.iconst (pc := 4) C dX9_stepOp_4 (v := (1 : Int32)) (by decide) ?_
  refine V.isub (pc := 5) C dX9_stepOp_5 ?_
  refine V.istore (pc := 6) (L' := [(5, .int (a2 - (1 : Int32))), (4, .int a1), (0, .ref a0), (1, .int a1), (2, .int a2), (3, .int a3)]) C dX9_stepOp_6 (by decide) rfl ?_
  refine V.sub (L' := [(3, .int a3), (4, .int a1), (5, .int (a2 - (1 : Int32)))]) [5, 1, 0] rfl ?_
  exact bX9_stepOp_8 C  _ _ _ _ _ hf
theorem dX9_soundBehind_0 : decode cX9_soundBehind 0 = .ok (.iload_n 1, 1) := by decide +kernel
theorem dX9_soundBehind_1 : decode cX9_soundBehind 1 = .ok (.istore 4, 2) := by decide +kernel
theorem dX9_soundBehind_3 : decode cX9_soundBehind 3 = .ok (.iconst 0, 1) := by decide +kernel
theorem dX9_soundBehind_4 : decode cX9_soundBehind 4 = .ok (.istore 5, 2) := by decide +kernel
theorem dX9_soundBehind_6 : decode cX9_soundBehind 6 = .ok (.iload 5, 2) := by decide +kernel
theorem dX9_soundBehind_8 : decode cX9_soundBehind 8 = .ok (.iload_n 3, 1) := by decide +kernel
theorem dX9_soundBehind_9 : decode cX9_soundBehind 9 = .ok (.if_icmp .ge 48, 3) := by decide +kernel
theorem dX9_soundBehind_12 : decode cX9_soundBehind 12 = .ok (.aload_n 0, 1) := by decide +kernel
theorem dX9_soundBehind_13 : decode cX9_soundBehind 13 = .ok (.iload_n 2, 1) := by decide +kernel
theorem dX9_soundBehind_14 : decode cX9_soundBehind 14 = .ok (.iload_n 3, 1) := by decide +kernel
theorem dX9_soundBehind_15 : decode cX9_soundBehind 15 = .ok (.iload 5, 2) := by decide +kernel
theorem dX9_soundBehind_17 : decode cX9_soundBehind 17 = .ok (.invokevirtual 313, 3) := by decide +kernel
theorem dX9_soundBehind_20 : decode cX9_soundBehind 20 = .ok (.istore 6, 2) := by decide +kernel
theorem dX9_soundBehind_22 : decode cX9_soundBehind 22 = .ok (.iload 6, 2) := by decide +kernel
theorem dX9_soundBehind_24 : decode cX9_soundBehind 24 = .ok (.ifCond .ne 11, 3) := by decide +kernel
theorem dX9_soundBehind_27 : decode cX9_soundBehind 27 = .ok (.iload 4, 2) := by decide +kernel
theorem dX9_soundBehind_29 : decode cX9_soundBehind 29 = .ok (.iconst 2, 1) := by decide +kernel
theorem dX9_soundBehind_30 : decode cX9_soundBehind 30 = .ok (.if_icmp .ne 5, 3) := by decide +kernel
theorem dX9_soundBehind_33 : decode cX9_soundBehind 33 = .ok (.iconst (-1), 1) := by decide +kernel
theorem dX9_soundBehind_34 : decode cX9_soundBehind 34 = .ok (.ireturn, 1) := by decide +kernel
theorem dX9_soundBehind_35 : decode cX9_soundBehind 35 = .ok (.iload 6, 2) := by decide +kernel
theorem dX9_soundBehind_37 : decode cX9_soundBehind 37 = .ok (.ifCond .ne 8, 3) := by decide +kernel
theorem dX9_soundBehind_40 : decode cX9_soundBehind 40 = .ok (.iload 4, 2) := by decide +kernel
theorem dX9_soundBehind_42 : decode cX9_soundBehind 42 = .ok (.goto 7, 3) := by decide +kernel
theorem dX9_soundBehind_45 : decode cX9_soundBehind 45 = .ok (.iload 6, 2) := by decide +kernel
theorem dX9_soundBehind_47 : decode cX9_soundBehind 47 = .ok (.iconst 1, 1) := by decide +kernel
theorem dX9_soundBehind_48 : decode cX9_soundBehind 48 = .ok (.isub, 1) := by decide +kernel
theorem dX9_soundBehind_49 : decode cX9_soundBehind 49 = .ok (.istore 4, 2) := by decide +kernel
theorem dX9_soundBehind_51 : decode cX9_soundBehind 51 = .ok (.iinc 5 1, 3) := by decide +kernel
theorem dX9_soundBehind_54 : decode cX9_soundBehind 54 = .ok (.goto (-48), 3) := by decide +kernel
theorem dX9_soundBehind_57 : decode cX9_soundBehind 57 = .ok (.iload 4, 2) := by decide +kernel
theorem dX9_soundBehind_59 : decode cX9_soundBehind 59 = .ok (.ireturn, 1) := by decide +kernel
def fX9_soundBehind_49 (k6 : PH → Nat → Int32 → Int32 → Int32 → Int32 → Option (Int32 × PH)) (g : PH) (v0 : Nat) (v2 : Int32) (v3 : Int32) (v5 : Int32) (s0 : Int32) : Option (Int32 × PH) :=
  k6 g v0 v2 v3 s0 (v5 + (1 : Int32))
set_option maxHeartbeats 4000000 in
set_option maxRecDepth 100000 in
theorem bX9_soundBehind_49 {K : HK} {E : HE} {r : Int32} {g' : PH} {k6 : PH → Nat → Int32 → Int32 → Int32 → Int32 → Option (Int32 × PH)} (C : VC K E 7 cX9_soundBehind RX9 (some .int)) (hk6 : ∀ (g : PH) (v0 : Nat) (v2 : Int32) (v3 : Int32) (v4 : Int32) (v5 : Int32), k6 g v0 v2 v3 v4 v5 = some (r, g') → V K E (hRm 1 25 0 0) 7 (hZ K E (some (.int r)) g' 0 0) 0 0 (kS K) g 6 [(0, .ref v0), (2, .int v2), (3, .int v3), (4, .int v4), (5, .int v5)] []) {g : PH} {v0 : Nat} {v2 : Int32} {v3 : Int32} {v5 : Int32} {s0 : Int32} (hf : fX9_soundBehind_49 k6 g v0 v2 v3 v5 s0 = some (r, g')) : V K E (hRm 1 25 0 0) 7 (hZ K E (some (.int r)) g' 0 0) 0 0 (kS K) g 49 [(0, .ref v0), (2, .int v2), (3, .int v3), (5, .int v5)] [.int s0] := by
  unfold fX9_soundBehind_49 at hf
  refine V.istore (pc := 49) (L' := [(4, .int s0), (0, .ref v0), (2, .int v2), (3, .int v3), (5, .int v5)]) C dX9_soundBehind_49 (by decide) rfl ?_
  refine V.iinc (pc := 51) (v := (v5 + (1 : Int32))) (L' := [(5, .int (v5 + (1 : Int32))), (4, .int s0), (0, .ref v0), (2, .int v2), (3, .int v3)]) C dX9_soundBehind_51 4 rfl rfl (by decide) rfl ?_
  refine V.goto (pc := 54) (t := 6) C dX9_soundBehind_54 (by decide) ?_
  refine V.sub (L' := [(0, .ref v0), (2, .int v2), (3, .int v3), (4, .int s0), (5, .int (v5 + (1 : Int32)))]) [2, 3, 4, 1, 0] rfl ?_
  exact hk6 _ _ _ _ _ _ hf
def fX9_soundBehind_35 (k6 : PH → Nat → Int32 → Int32 → Int32 → Int32 → Option (Int32 × PH)) (g : PH) (v0 : Nat) (v2 : Int32) (v3 : Int32) (v4 : Int32) (v5 : Int32) (v6 : Int32) : Option (Int32 × PH) :=
  if v6 = 0 then (fX9_soundBehind_49 (k6) g v0 v2 v3 v5 v4) else
  (fX9_soundBehind_49 (k6) g v0 v2 v3 v5 (v6 - (1 : Int32)))
set_option maxHeartbeats 4000000 in
set_option maxRecDepth 100000 in
theorem bX9_soundBehind_35 {K : HK} {E : HE} {r : Int32} {g' : PH} {k6 : PH → Nat → Int32 → Int32 → Int32 → Int32 → Option (Int32 × PH)} (C : VC K E 7 cX9_soundBehind RX9 (some .int)) (hk6 : ∀ (g : PH) (v0 : Nat) (v2 : Int32) (v3 : Int32) (v4 : Int32) (v5 : Int32), k6 g v0 v2 v3 v4 v5 = some (r, g') → V K E (hRm 1 25 0 0) 7 (hZ K E (some (.int r)) g' 0 0) 0 0 (kS K) g 6 [(0, .ref v0), (2, .int v2), (3, .int v3), (4, .int v4), (5, .int v5)] []) {g : PH} {v0 : Nat} {v2 : Int32} {v3 : Int32} {v4 : Int32} {v5 : Int32} {v6 : Int32} (hf : fX9_soundBehind_35 k6 g v0 v2 v3 v4 v5 v6 = some (r, g')) : V K E (hRm 1 25 0 0) 7 (hZ K E (some (.int r)) g' 0 0) 0 0 (kS K) g 35 [(0, .ref v0), (2, .int v2), (3, .int v3), (4, .int v4), (5, .int v5), (6, .int v6)] [] := by
  unfold fX9_soundBehind_35 at hf
  refine V.iload (pc := 35) C dX9_soundBehind_35 5 rfl ?_
  refine V.if_ne (pc := 37) (t := 45) C dX9_soundBehind_37 (by decide) (fun c1 => ?_) (fun c1 => ?_)
  · replace hf := ite_f c1 hf
    refine V.iload (pc := 45) C dX9_soundBehind_45 5 rfl ?_
    refine V.iconst (pc := 47) C dX9_soundBehind_47 (v := (1 : Int32)) (by decide) ?_
    refine V.isub (pc := 48) C dX9_soundBehind_48 ?_
    refine V.sub (L' := [(0, .ref v0), (2, .int v2), (3, .int v3), (5, .int v5)]) [0, 1, 2, 4] rfl ?_
    exact bX9_soundBehind_49 C hk6 hf
  replace hf := ite_t c1 hf
  refine V.iload (pc := 40) C dX9_soundBehind_40 3 rfl ?_
  refine V.goto (pc := 42) (t := 49) C dX9_soundBehind_42 (by decide) ?_
  refine V.sub (L' := [(0, .ref v0), (2, .int v2), (3, .int v3), (5, .int v5)]) [0, 1, 2, 4] rfl ?_
  exact bX9_soundBehind_49 C hk6 hf
def fX9_soundBehind_6  : Nat → PH → Nat → Int32 → Int32 → Int32 → Int32 → Option (Int32 × PH)
  | 0, _, _, _, _, _, _ => none
  | n + 1, g, v0, v2, v3, v4, v5 =>
  if v3 ≤ v5 then (some (v4, g)) else
  ((fX9_stepOp g v0 v2 v3 v5).bind fun q2 =>
  (if q2.1 = 0 then (if v4 = (2 : Int32) then (some ((-1 : Int32), q2.2)) else
  (fX9_soundBehind_35 (fX9_soundBehind_6 n) q2.2 v0 v2 v3 v4 v5 q2.1)) else
  (fX9_soundBehind_35 (fX9_soundBehind_6 n) q2.2 v0 v2 v3 v4 v5 q2.1)))
set_option maxHeartbeats 4000000 in
set_option maxRecDepth 100000 in
theorem bX9_soundBehind_6 {K : HK} {E : HE} {r : Int32} {g' : PH}  (C : VC K E 7 cX9_soundBehind RX9 (some .int))  : ∀ (n : Nat) (g : PH) (v0 : Nat) (v2 : Int32) (v3 : Int32) (v4 : Int32) (v5 : Int32), fX9_soundBehind_6  n g v0 v2 v3 v4 v5 = some (r, g') → V K E (hRm 1 25 0 0) 7 (hZ K E (some (.int r)) g' 0 0) 0 0 (kS K) g 6 [(0, .ref v0), (2, .int v2), (3, .int v3), (4, .int v4), (5, .int v5)] [] := by
  intro n
  induction n with
  | zero =>
    intro g v0 v2 v3 v4 v5 hf
    rw [fX9_soundBehind_6] at hf
    cases hf
  | succ n ih =>
    intro g v0 v2 v3 v4 v5 hf
    rw [fX9_soundBehind_6] at hf
    refine V.iload (pc := 6) C dX9_soundBehind_6 4 rfl ?_
    refine V.iload_n (pc := 8) C dX9_soundBehind_8 2 rfl ?_
    refine V.icmp_ge (pc := 9) (t := 57) C dX9_soundBehind_9 (by decide) (fun c1 => ?_) (fun c1 => ?_)
    · replace hf := ite_t c1 hf
      refine V.iload (pc := 57) C dX9_soundBehind_57 3 rfl ?_
      obtain ⟨f1, f2⟩ := fin2 hf
      clear hf
      subst f1
      subst f2
      exact V.iret (pc := 59) C rfl dX9_soundBehind_59
    replace hf := ite_f c1 hf
    refine V.aload_n (pc := 12) C dX9_soundBehind_12 0 rfl ?_
    refine V.iload_n (pc := 13) C dX9_soundBehind_13 1 rfl ?_
    refine V.iload_n (pc := 14) C dX9_soundBehind_14 2 rfl ?_
    refine V.iload (pc := 15) C dX9_soundBehind_15 4 rfl ?_
    replace hf := ob_some hf
    obtain ⟨q2, h3, hf⟩ := hf
    refine V.callV0i (pc := 17) C hyX9_stepOp wd_1460 (mX9_stepOp (r := q2.1) (g' := q2.2) K.2.1 E (kS K) h3) rfl rfl rfl (oX9_stepOp h3) ⟨Nat.le_of_ble_eq_true rfl, Nat.le_of_ble_eq_true rfl⟩ (Nat.le_of_ble_eq_true rfl) dX9_soundBehind_17 ⟨Nat.zero_le _, Nat.zero_le _⟩ rfl ?_
    refine V.istore (pc := 20) (L' := [(6, .int q2.1), (0, .ref v0), (2, .int v2), (3, .int v3), (4, .int v4), (5, .int v5)]) C dX9_soundBehind_20 (by decide) rfl ?_
    refine V.iload (pc := 22) C dX9_soundBehind_22 0 rfl ?_
    refine V.if_ne (pc := 24) (t := 35) C dX9_soundBehind_24 (by decide) (fun c4 => ?_) (fun c4 => ?_)
    · replace hf := ite_f c4 hf
      refine V.sub (L' := [(0, .ref v0), (2, .int v2), (3, .int v3), (4, .int v4), (5, .int v5), (6, .int q2.1)]) [1, 2, 3, 4, 5, 0] rfl ?_
      exact bX9_soundBehind_35 C ih hf
    replace hf := ite_t c4 hf
    refine V.iload (pc := 27) C dX9_soundBehind_27 4 rfl ?_
    refine V.iconst (pc := 29) C dX9_soundBehind_29 (v := (2 : Int32)) (by decide) ?_
    refine V.icmp_ne (pc := 30) (t := 35) C dX9_soundBehind_30 (by decide) (fun c5 => ?_) (fun c5 => ?_)
    · replace hf := ite_f c5 hf
      refine V.sub (L' := [(0, .ref v0), (2, .int v2), (3, .int v3), (4, .int v4), (5, .int v5), (6, .int q2.1)]) [1, 2, 3, 4, 5, 0] rfl ?_
      exact bX9_soundBehind_35 C ih hf
    replace hf := ite_t c5 hf
    refine V.iconst (pc := 33) C dX9_soundBehind_33 (v := (-1 : Int32)) (by decide) ?_
    obtain ⟨f1, f2⟩ := fin2 hf
    clear hf
    subst f1
    subst f2
    exact V.iret (pc := 34) C rfl dX9_soundBehind_34
def fX9_soundBehind (g : PH) (a0 : Nat) (a1 : Int32) (a2 : Int32) (a3 : Int32) : Option (Int32 × PH) :=
  okb (isO g a0 9) (fX9_soundBehind_6 FUEL g a0 a2 a3 a1 (0 : Int32))
theorem oX9_soundBehind {g : PH} {a0 : Nat} {a1 : Int32} {a2 : Int32} {a3 : Int32} {q : (Int32 × PH)} (h : fX9_soundBehind g a0 a1 a2 a3 = some q) : isO g a0 9 = true := by unfold fX9_soundBehind at h; exact (okb_some h).1
theorem hyX9_soundBehind : hMet yX9_soundBehind RX9 cX9_soundBehind 7 (some .int) 3 := ⟨wd_1459, wd_1458, ws_103, wd_7, rfl, by decide +kernel, by decide +kernel, by decide +kernel⟩
set_option maxHeartbeats 4000000 in
set_option maxRecDepth 100000 in
theorem mX9_soundBehind (l : Launch) (E : HE) (sz : Nat) {g g' : PH} {a0 : Nat} {a1 : Int32} {a2 : Int32} {a3 : Int32} {r : Int32} (hf : fX9_soundBehind g a0 a1 a2 a3 = some (r, g')) : hM l E yX9_soundBehind cX9_soundBehind 7 (some .int) 1 25 0 0 sz g [.ref a0, .int a1, .int a2, .int a3] (some (.int r)) g' := by
  refine hM.of (by decide) (Nat.le_of_ble_eq_true rfl) (fun K hl C hin hsz => ?_)
  subst hl
  subst hsz
  have C : VC K E 7 cX9_soundBehind RX9 (some .int) := C
  unfold fX9_soundBehind at hf
  replace hf := okb_some hf
  obtain ⟨ho, hf⟩ := hf
  refine V.start (L' := [(0, .ref a0), (1, .int a1), (2, .int a2), (3, .int a3)]) rfl ?_
  refine V.iload_n (pc := 0) C dX9_soundBehind_0 1 rfl ?_
  refine V.istore (pc := 1) (L' := [(4, .int a1), (0, .ref a0), (1, .int a1), (2, .int a2), (3, .int a3)]) C dX9_soundBehind_1 (by decide) rfl ?_
  refine V.iconst (pc := 3) C dX9_soundBehind_3 (v := (0 : Int32)) (by decide) ?_
  refine V.istore (pc := 4) (L' := [(5, .int (0 : Int32)), (4, .int a1), (0, .ref a0), (1, .int a1), (2, .int a2), (3, .int a3)]) C dX9_soundBehind_4 (by decide) rfl ?_
  refine V.sub (L' := [(0, .ref a0), (2, .int a2), (3, .int a3), (4, .int a1), (5, .int (0 : Int32))]) [2, 4, 5, 1, 0] rfl ?_
  exact bX9_soundBehind_6 C  _ _ _ _ _ _ _ hf
theorem dX9_machineBehind_0 : decode cX9_machineBehind 0 = .ok (.aload_n 0, 1) := by decide +kernel
theorem dX9_machineBehind_1 : decode cX9_machineBehind 1 = .ok (.iload_n 1, 1) := by decide +kernel
theorem dX9_machineBehind_2 : decode cX9_machineBehind 2 = .ok (.iload_n 2, 1) := by decide +kernel
theorem dX9_machineBehind_3 : decode cX9_machineBehind 3 = .ok (.iconst 1, 1) := by decide +kernel
theorem dX9_machineBehind_4 : decode cX9_machineBehind 4 = .ok (.iadd, 1) := by decide +kernel
theorem dX9_machineBehind_5 : decode cX9_machineBehind 5 = .ok (.invokevirtual 316, 3) := by decide +kernel
theorem dX9_machineBehind_8 : decode cX9_machineBehind 8 = .ok (.istore 6, 2) := by decide +kernel
theorem dX9_machineBehind_10 : decode cX9_machineBehind 10 = .ok (.iload 6, 2) := by decide +kernel
theorem dX9_machineBehind_12 : decode cX9_machineBehind 12 = .ok (.iconst 4, 1) := by decide +kernel
theorem dX9_machineBehind_13 : decode cX9_machineBehind 13 = .ok (.if_icmp .ne 5, 3) := by decide +kernel
theorem dX9_machineBehind_16 : decode cX9_machineBehind 16 = .ok (.iconst 4, 1) := by decide +kernel
theorem dX9_machineBehind_17 : decode cX9_machineBehind 17 = .ok (.ireturn, 1) := by decide +kernel
theorem dX9_machineBehind_18 : decode cX9_machineBehind 18 = .ok (.aload_n 0, 1) := by decide +kernel
theorem dX9_machineBehind_19 : decode cX9_machineBehind 19 = .ok (.iload_n 2, 1) := by decide +kernel
theorem dX9_machineBehind_20 : decode cX9_machineBehind 20 = .ok (.iconst 0, 1) := by decide +kernel
theorem dX9_machineBehind_21 : decode cX9_machineBehind 21 = .ok (.invokevirtual 307, 3) := by decide +kernel
theorem dX9_machineBehind_24 : decode cX9_machineBehind 24 = .ok (.aload_n 0, 1) := by decide +kernel
theorem dX9_machineBehind_25 : decode cX9_machineBehind 25 = .ok (.getfield 32, 3) := by decide +kernel
theorem dX9_machineBehind_28 : decode cX9_machineBehind 28 = .ok (.iconst 0, 1) := by decide +kernel
theorem dX9_machineBehind_29 : decode cX9_machineBehind 29 = .ok (.iload 6, 2) := by decide +kernel
theorem dX9_machineBehind_31 : decode cX9_machineBehind 31 = .ok (.iastore, 1) := by decide +kernel
theorem dX9_machineBehind_32 : decode cX9_machineBehind 32 = .ok (.aload_n 0, 1) := by decide +kernel
theorem dX9_machineBehind_33 : decode cX9_machineBehind 33 = .ok (.iconst 0, 1) := by decide +kernel
theorem dX9_machineBehind_34 : decode cX9_machineBehind 34 = .ok (.putfield 222, 3) := by decide +kernel
theorem dX9_machineBehind_37 : decode cX9_machineBehind 37 = .ok (.aload_n 0, 1) := by decide +kernel
theorem dX9_machineBehind_38 : decode cX9_machineBehind 38 = .ok (.iconst 0, 1) := by decide +kernel
theorem dX9_machineBehind_39 : decode cX9_machineBehind 39 = .ok (.putfield 225, 3) := by decide +kernel
theorem dX9_machineBehind_42 : decode cX9_machineBehind 42 = .ok (.iconst 0, 1) := by decide +kernel
theorem dX9_machineBehind_43 : decode cX9_machineBehind 43 = .ok (.istore 7, 2) := by decide +kernel
theorem dX9_machineBehind_45 : decode cX9_machineBehind 45 = .ok (.iload 7, 2) := by decide +kernel
theorem dX9_machineBehind_47 : decode cX9_machineBehind 47 = .ok (.iconst 2, 1) := by decide +kernel
theorem dX9_machineBehind_48 : decode cX9_machineBehind 48 = .ok (.if_icmp .ge 92, 3) := by decide +kernel
theorem dX9_machineBehind_51 : decode cX9_machineBehind 51 = .ok (.aload_n 0, 1) := by decide +kernel
theorem dX9_machineBehind_52 : decode cX9_machineBehind 52 = .ok (.iload_n 1, 1) := by decide +kernel
theorem dX9_machineBehind_53 : decode cX9_machineBehind 53 = .ok (.iconst 0, 1) := by decide +kernel
theorem dX9_machineBehind_54 : decode cX9_machineBehind 54 = .ok (.invokevirtual 316, 3) := by decide +kernel
theorem dX9_machineBehind_57 : decode cX9_machineBehind 57 = .ok (.istore 8, 2) := by decide +kernel
theorem dX9_machineBehind_59 : decode cX9_machineBehind 59 = .ok (.iconst 0, 1) := by decide +kernel
theorem dX9_machineBehind_60 : decode cX9_machineBehind 60 = .ok (.istore 9, 2) := by decide +kernel
theorem dX9_machineBehind_62 : decode cX9_machineBehind 62 = .ok (.iload 9, 2) := by decide +kernel
theorem dX9_machineBehind_64 : decode cX9_machineBehind 64 = .ok (.iload 5, 2) := by decide +kernel
theorem dX9_machineBehind_66 : decode cX9_machineBehind 66 = .ok (.if_icmp .ge 68, 3) := by decide +kernel
theorem dX9_machineBehind_69 : decode cX9_machineBehind 69 = .ok (.aload_n 0, 1) := by decide +kernel
theorem dX9_machineBehind_70 : decode cX9_machineBehind 70 = .ok (.iload 4, 2) := by decide +kernel
theorem dX9_machineBehind_72 : decode cX9_machineBehind 72 = .ok (.iload 5, 2) := by decide +kernel
theorem dX9_machineBehind_74 : decode cX9_machineBehind 74 = .ok (.iload 9, 2) := by decide +kernel
theorem dX9_machineBehind_76 : decode cX9_machineBehind 76 = .ok (.invokevirtual 313, 3) := by decide +kernel
theorem dX9_machineBehind_79 : decode cX9_machineBehind 79 = .ok (.istore 10, 2) := by decide +kernel
theorem dX9_machineBehind_81 : decode cX9_machineBehind 81 = .ok (.aload_n 0, 1) := by decide +kernel
theorem dX9_machineBehind_82 : decode cX9_machineBehind 82 = .ok (.iload_n 3, 1) := by decide +kernel
theorem dX9_machineBehind_83 : decode cX9_machineBehind 83 = .ok (.ifCond .ne 8, 3) := by decide +kernel
theorem dX9_machineBehind_86 : decode cX9_machineBehind 86 = .ok (.iload 7, 2) := by decide +kernel
theorem dX9_machineBehind_88 : decode cX9_machineBehind 88 = .ok (.goto 7, 3) := by decide +kernel
theorem dX9_machineBehind_91 : decode cX9_machineBehind 91 = .ok (.iconst 1, 1) := by decide +kernel
theorem dX9_machineBehind_92 : decode cX9_machineBehind 92 = .ok (.iload 7, 2) := by decide +kernel
theorem dX9_machineBehind_94 : decode cX9_machineBehind 94 = .ok (.isub, 1) := by decide +kernel
theorem dX9_machineBehind_95 : decode cX9_machineBehind 95 = .ok (.iload 10, 2) := by decide +kernel
theorem dX9_machineBehind_97 : decode cX9_machineBehind 97 = .ok (.ifCond .ne 8, 3) := by decide +kernel
theorem dX9_machineBehind_100 : decode cX9_machineBehind 100 = .ok (.iload 8, 2) := by decide +kernel
theorem dX9_machineBehind_102 : decode cX9_machineBehind 102 = .ok (.goto 7, 3) := by decide +kernel
theorem dX9_machineBehind_105 : decode cX9_machineBehind 105 = .ok (.iload 10, 2) := by decide +kernel
theorem dX9_machineBehind_107 : decode cX9_machineBehind 107 = .ok (.iconst 1, 1) := by decide +kernel
theorem dX9_machineBehind_108 : decode cX9_machineBehind 108 = .ok (.iadd, 1) := by decide +kernel
theorem dX9_machineBehind_109 : decode cX9_machineBehind 109 = .ok (.invokevirtual 234, 3) := by decide +kernel
theorem dX9_machineBehind_112 : decode cX9_machineBehind 112 = .ok (.iload 10, 2) := by decide +kernel
theorem dX9_machineBehind_114 : decode cX9_machineBehind 114 = .ok (.ifCond .ne 8, 3) := by decide +kernel
theorem dX9_machineBehind_117 : decode cX9_machineBehind 117 = .ok (.iload 8, 2) := by decide +kernel
theorem dX9_machineBehind_119 : decode cX9_machineBehind 119 = .ok (.goto 7, 3) := by decide +kernel
theorem dX9_machineBehind_122 : decode cX9_machineBehind 122 = .ok (.iload 10, 2) := by decide +kernel
theorem dX9_machineBehind_124 : decode cX9_machineBehind 124 = .ok (.iconst 1, 1) := by decide +kernel
theorem dX9_machineBehind_125 : decode cX9_machineBehind 125 = .ok (.isub, 1) := by decide +kernel
theorem dX9_machineBehind_126 : decode cX9_machineBehind 126 = .ok (.istore 8, 2) := by decide +kernel
theorem dX9_machineBehind_128 : decode cX9_machineBehind 128 = .ok (.iinc 9 1, 3) := by decide +kernel
theorem dX9_machineBehind_131 : decode cX9_machineBehind 131 = .ok (.goto (-69), 3) := by decide +kernel
theorem dX9_machineBehind_134 : decode cX9_machineBehind 134 = .ok (.iinc 7 1, 3) := by decide +kernel
theorem dX9_machineBehind_137 : decode cX9_machineBehind 137 = .ok (.goto (-92), 3) := by decide +kernel
theorem dX9_machineBehind_140 : decode cX9_machineBehind 140 = .ok (.aload_n 0, 1) := by decide +kernel
theorem dX9_machineBehind_141 : decode cX9_machineBehind 141 = .ok (.getfield 222, 3) := by decide +kernel
theorem dX9_machineBehind_144 : decode cX9_machineBehind 144 = .ok (.ifCond .le 7, 3) := by decide +kernel
theorem dX9_machineBehind_147 : decode cX9_machineBehind 147 = .ok (.iconst 4, 1) := by decide +kernel
theorem dX9_machineBehind_148 : decode cX9_machineBehind 148 = .ok (.goto 9, 3) := by decide +kernel
theorem dX9_machineBehind_151 : decode cX9_machineBehind 151 = .ok (.aload_n 0, 1) := by decide +kernel
theorem dX9_machineBehind_152 : decode cX9_machineBehind 152 = .ok (.getfield 32, 3) := by decide +kernel
theorem dX9_machineBehind_155 : decode cX9_machineBehind 155 = .ok (.iconst 0, 1) := by decide +kernel
theorem dX9_machineBehind_156 : decode cX9_machineBehind 156 = .ok (.iaload, 1) := by decide +kernel
theorem dX9_machineBehind_157 : decode cX9_machineBehind 157 = .ok (.ireturn, 1) := by decide +kernel
def fX9_machineBehind_126 (k45 : PH → Nat → Int32 → Int32 → Int32 → Int32 → Int32 → Option (Int32 × PH)) (k62 : PH → Nat → Int32 → Int32 → Int32 → Int32 → Int32 → Int32 → Int32 → Option (Int32 × PH)) (g : PH) (v0 : Nat) (v1 : Int32) (v3 : Int32) (v4 : Int32) (v5 : Int32) (v7 : Int32) (v9 : Int32) (s0 : Int32) : Option (Int32 × PH) :=
  k62 g v0 v1 v3 v4 v5 v7 s0 (v9 + (1 : Int32))
set_option maxHeartbeats 4000000 in
set_option maxRecDepth 100000 in
theorem bX9_machineBehind_126 {K : HK} {E : HE} {r : Int32} {g' : PH} {k45 : PH → Nat → Int32 → Int32 → Int32 → Int32 → Int32 → Option (Int32 × PH)} {k62 : PH → Nat → Int32 → Int32 → Int32 → Int32 → Int32 → Int32 → Int32 → Option (Int32 × PH)} (C : VC K E 11 cX9_machineBehind RX9 (some .int)) (hk45 : ∀ (g : PH) (v0 : Nat) (v1 : Int32) (v3 : Int32) (v4 : Int32) (v5 : Int32) (v7 : Int32), k45 g v0 v1 v3 v4 v5 v7 = some (r, g') → V K E (hRm 7 165 0 0) 11 (hZ K E (some (.int r)) g' 0 0) 0 0 (kS K) g 45 [(0, .ref v0), (1, .int v1), (3, .int v3), (4, .int v4), (5, .int v5), (7, .int v7)] []) (hk62 : ∀ (g : PH) (v0 : Nat) (v1 : Int32) (v3 : Int32) (v4 : Int32) (v5 : Int32) (v7 : Int32) (v8 : Int32) (v9 : Int32), k62 g v0 v1 v3 v4 v5 v7 v8 v9 = some (r, g') → V K E (hRm 7 165 0 0) 11 (hZ K E (some (.int r)) g' 0 0) 0 0 (kS K) g 62 [(0, .ref v0), (1, .int v1), (3, .int v3), (4, .int v4), (5, .int v5), (7, .int v7), (8, .int v8), (9, .int v9)] []) {g : PH} {v0 : Nat} {v1 : Int32} {v3 : Int32} {v4 : Int32} {v5 : Int32} {v7 : Int32} {v9 : Int32} {s0 : Int32} (hf : fX9_machineBehind_126 k45 k62 g v0 v1 v3 v4 v5 v7 v9 s0 = some (r, g')) : V K E (hRm 7 165 0 0) 11 (hZ K E (some (.int r)) g' 0 0) 0 0 (kS K) g 126 [(0, .ref v0), (1, .int v1), (3, .int v3), (4, .int v4), (5, .int v5), (7, .int v7), (9, .int v9)] [.int s0] := by
  unfold fX9_machineBehind_126 at hf
  refine V.istore (pc := 126) (L' := [(8, .int s0), (0, .ref v0), (1, .int v1), (3, .int v3), (4, .int v4), (5, .int v5), (7, .int v7), (9, .int v9)]) C dX9_machineBehind_126 (by decide) rfl ?_
  refine V.iinc (pc := 128) (v := (v9 + (1 : Int32))) (L' := [(9, .int (v9 + (1 : Int32))), (8, .int s0), (0, .ref v0), (1, .int v1), (3, .int v3), (4, .int v4), (5, .int v5), (7, .int v7)]) C dX9_machineBehind_128 7 rfl rfl (by decide) rfl ?_
  refine V.goto (pc := 131) (t := 62) C dX9_machineBehind_131 (by decide) ?_
  refine V.sub (L' := [(0, .ref v0), (1, .int v1), (3, .int v3), (4, .int v4), (5, .int v5), (7, .int v7), (8, .int s0), (9, .int (v9 + (1 : Int32)))]) [2, 3, 4, 5, 6, 7, 1, 0] rfl ?_
  exact hk62 _ _ _ _ _ _ _ _ _ hf
def fX9_machineBehind_109 (k45 : PH → Nat → Int32 → Int32 → Int32 → Int32 → Int32 → Option (Int32 × PH)) (k62 : PH → Nat → Int32 → Int32 → Int32 → Int32 → Int32 → Int32 → Int32 → Option (Int32 × PH)) (g : PH) (v0 : Nat) (v1 : Int32) (v3 : Int32) (v4 : Int32) (v5 : Int32) (v7 : Int32) (v8 : Int32) (v9 : Int32) (v10 : Int32) (s0 : Int32) (s1 : Int32) (s2 : Nat) : Option (Int32 × PH) :=
  (fX9_opAt g s2 s1 s0).bind fun q1 =>
  (if v10 = 0 then (fX9_machineBehind_126 (k45) (k62) q1.2 v0 v1 v3 v4 v5 v7 v9 v8) else
  (fX9_machineBehind_126 (k45) (k62) q1.2 v0 v1 v3 v4 v5 v7 v9 (v10 - (1 : Int32))))
set_option maxHeartbeats 4000000 in
set_option maxRecDepth 100000 in
theorem bX9_machineBehind_109 {K : HK} {E : HE} {r : Int32} {g' : PH} {k45 : PH → Nat → Int32 → Int32 → Int32 → Int32 → Int32 → Option (Int32 × PH)} {k62 : PH → Nat → Int32 → Int32 → Int32 → Int32 → Int32 → Int32 → Int32 → Option (Int32 × PH)} (C : VC K E 11 cX9_machineBehind RX9 (some .int)) (hk45 : ∀ (g : PH) (v0 : Nat) (v1 : Int32) (v3 : Int32) (v4 : Int32) (v5 : Int32) (v7 : Int32), k45 g v0 v1 v3 v4 v5 v7 = some (r, g') → V K E (hRm 7 165 0 0) 11 (hZ K E (some (.int r)) g' 0 0) 0 0 (kS K) g 45 [(0, .ref v0), (1, .int v1), (3, .int v3), (4, .int v4), (5, .int v5), (7, .int v7)] []) (hk62 : ∀ (g : PH) (v0 : Nat) (v1 : Int32) (v3 : Int32) (v4 : Int32) (v5 : Int32) (v7 : Int32) (v8 : Int32) (v9 : Int32), k62 g v0 v1 v3 v4 v5 v7 v8 v9 = some (r, g') → V K E (hRm 7 165 0 0) 11 (hZ K E (some (.int r)) g' 0 0) 0 0 (kS K) g 62 [(0, .ref v0), (1, .int v1), (3, .int v3), (4, .int v4), (5, .int v5), (7, .int v7), (8, .int v8), (9, .int v9)] []) {g : PH} {v0 : Nat} {v1 : Int32} {v3 : Int32} {v4 : Int32} {v5 : Int32} {v7 : Int32} {v8 : Int32} {v9 : Int32} {v10 : Int32} {s0 : Int32} {s1 : Int32} {s2 : Nat} (hf : fX9_machineBehind_109 k45 k62 g v0 v1 v3 v4 v5 v7 v8 v9 v10 s0 s1 s2 = some (r, g')) : V K E (hRm 7 165 0 0) 11 (hZ K E (some (.int r)) g' 0 0) 0 0 (kS K) g 109 [(0, .ref v0), (1, .int v1), (3, .int v3), (4, .int v4), (5, .int v5), (7, .int v7), (8, .int v8), (9, .int v9), (10, .int v10)] [.int s0, .int s1, .ref s2] := by
  unfold fX9_machineBehind_109 at hf
  replace hf := ob_some hf
  obtain ⟨q1, h2, hf⟩ := hf
  refine V.callV0v (pc := 109) C hyX9_opAt wd_1356 (mX9_opAt (r := q1.1) (g' := q1.2) K.2.1 E (kS K) h2) rfl rfl rfl (oX9_opAt h2) ⟨Nat.le_of_ble_eq_true rfl, Nat.le_of_ble_eq_true rfl⟩ (Nat.le_of_ble_eq_true rfl) dX9_machineBehind_109 ⟨Nat.zero_le _, Nat.zero_le _⟩ rfl ?_
  refine V.iload (pc := 112) C dX9_machineBehind_112 8 rfl ?_
  refine V.if_ne (pc := 114) (t := 122) C dX9_machineBehind_114 (by decide) (fun c3 => ?_) (fun c3 => ?_)
  · replace hf := ite_f c3 hf
    refine V.iload (pc := 122) C dX9_machineBehind_122 8 rfl ?_
    refine V.iconst (pc := 124) C dX9_machineBehind_124 (v := (1 : Int32)) (by decide) ?_
    refine V.isub (pc := 125) C dX9_machineBehind_125 ?_
    refine V.sub (L' := [(0, .ref v0), (1, .int v1), (3, .int v3), (4, .int v4), (5, .int v5), (7, .int v7), (9, .int v9)]) [0, 1, 2, 3, 4, 5, 7] rfl ?_
    exact bX9_machineBehind_126 C hk45 hk62 hf
  replace hf := ite_t c3 hf
  refine V.iload (pc := 117) C dX9_machineBehind_117 6 rfl ?_
  refine V.goto (pc := 119) (t := 126) C dX9_machineBehind_119 (by decide) ?_
  refine V.sub (L' := [(0, .ref v0), (1, .int v1), (3, .int v3), (4, .int v4), (5, .int v5), (7, .int v7), (9, .int v9)]) [0, 1, 2, 3, 4, 5, 7] rfl ?_
  exact bX9_machineBehind_126 C hk45 hk62 hf
def fX9_machineBehind_95 (k45 : PH → Nat → Int32 → Int32 → Int32 → Int32 → Int32 → Option (Int32 × PH)) (k62 : PH → Nat → Int32 → Int32 → Int32 → Int32 → Int32 → Int32 → Int32 → Option (Int32 × PH)) (g : PH) (v0 : Nat) (v1 : Int32) (v3 : Int32) (v4 : Int32) (v5 : Int32) (v7 : Int32) (v8 : Int32) (v9 : Int32) (v10 : Int32) (s0 : Int32) (s1 : Nat) : Option (Int32 × PH) :=
  if v10 = 0 then (fX9_machineBehind_109 (k45) (k62) g v0 v1 v3 v4 v5 v7 v8 v9 v10 v8 s0 s1) else
  (fX9_machineBehind_109 (k45) (k62) g v0 v1 v3 v4 v5 v7 v8 v9 v10 (v10 + (1 : Int32)) s0 s1)
set_option maxHeartbeats 4000000 in
set_option maxRecDepth 100000 in
theorem bX9_machineBehind_95 {K : HK} {E : HE} {r : Int32} {g' : PH} {k45 : PH → Nat → Int32 → Int32 → Int32 → Int32 → Int32 → Option (Int32 × PH)} {k62 : PH → Nat → Int32 → Int32 → Int32 → Int32 → Int32 → Int32 → Int32 → Option (Int32 × PH)} (C : VC K E 11 cX9_machineBehind RX9 (some .int)) (hk45 : ∀ (g : PH) (v0 : Nat) (v1 : Int32) (v3 : Int32) (v4 : Int32) (v5 : Int32) (v7 : Int32), k45 g v0 v1 v3 v4 v5 v7 = some (r, g') → V K E (hRm 7 165 0 0) 11 (hZ K E (some (.int r)) g' 0 0) 0 0 (kS K) g 45 [(0, .ref v0), (1, .int v1), (3, .int v3), (4, .int v4), (5, .int v5), (7, .int v7)] []) (hk62 : ∀ (g : PH) (v0 : Nat) (v1 : Int32) (v3 : Int32) (v4 : Int32) (v5 : Int32) (v7 : Int32) (v8 : Int32) (v9 : Int32), k62 g v0 v1 v3 v4 v5 v7 v8 v9 = some (r, g') → V K E (hRm 7 165 0 0) 11 (hZ K E (some (.int r)) g' 0 0) 0 0 (kS K) g 62 [(0, .ref v0), (1, .int v1), (3, .int v3), (4, .int v4), (5, .int v5), (7, .int v7), (8, .int v8), (9, .int v9)] []) {g : PH} {v0 : Nat} {v1 : Int32} {v3 : Int32} {v4 : Int32} {v5 : Int32} {v7 : Int32} {v8 : Int32} {v9 : Int32} {v10 : Int32} {s0 : Int32} {s1 : Nat} (hf : fX9_machineBehind_95 k45 k62 g v0 v1 v3 v4 v5 v7 v8 v9 v10 s0 s1 = some (r, g')) : V K E (hRm 7 165 0 0) 11 (hZ K E (some (.int r)) g' 0 0) 0 0 (kS K) g 95 [(0, .ref v0), (1, .int v1), (3, .int v3), (4, .int v4), (5, .int v5), (7, .int v7), (8, .int v8), (9, .int v9), (10, .int v10)] [.int s0, .ref s1] := by
  unfold fX9_machineBehind_95 at hf
  refine V.iload (pc := 95) C dX9_machineBehind_95 8 rfl ?_
  refine V.if_ne (pc := 97) (t := 105) C dX9_machineBehind_97 (by decide) (fun c1 => ?_) (fun c1 => ?_)
  · replace hf := ite_f c1 hf
    refine V.iload (pc := 105) C dX9_machineBehind_105 8 rfl ?_
    refine V.iconst (pc := 107) C dX9_machineBehind_107 (v := (1 : Int32)) (by decide) ?_
    refine V.iadd (pc := 108) C dX9_machineBehind_108 ?_
    refine V.sub (L' := [(0, .ref v0), (1, .int v1), (3, .int v3), (4, .int v4), (5, .int v5), (7, .int v7), (8, .int v8), (9, .int v9), (10, .int v10)]) [0, 1, 2, 3, 4, 5, 6, 7, 8] rfl ?_
    exact bX9_machineBehind_109 C hk45 hk62 hf
  replace hf := ite_t c1 hf
  refine V.iload (pc := 100) C dX9_machineBehind_100 6 rfl ?_
  refine V.goto (pc := 102) (t := 109) C dX9_machineBehind_102 (by decide) ?_
  refine V.sub (L' := [(0, .ref v0), (1, .int v1), (3, .int v3), (4, .int v4), (5, .int v5), (7, .int v7), (8, .int v8), (9, .int v9), (10, .int v10)]) [0, 1, 2, 3, 4, 5, 6, 7, 8] rfl ?_
  exact bX9_machineBehind_109 C hk45 hk62 hf
def fX9_machineBehind_62 (k45 : PH → Nat → Int32 → Int32 → Int32 → Int32 → Int32 → Option (Int32 × PH)) : Nat → PH → Nat → Int32 → Int32 → Int32 → Int32 → Int32 → Int32 → Int32 → Option (Int32 × PH)
  | 0, _, _, _, _, _, _, _, _, _ => none
  | n + 1, g, v0, v1, v3, v4, v5, v7, v8, v9 =>
  if v5 ≤ v9 then (k45 g v0 v1 v3 v4 v5 (v7 + (1 : Int32))) else
  ((fX9_stepOp g v0 v4 v5 v9).bind fun q2 =>
  (if v3 = 0 then (fX9_machineBehind_95 (k45) (fX9_machineBehind_62 k45 n) q2.2 v0 v1 v3 v4 v5 v7 v8 v9 q2.1 v7 v0) else
  (fX9_machineBehind_95 (k45) (fX9_machineBehind_62 k45 n) q2.2 v0 v1 v3 v4 v5 v7 v8 v9 q2.1 ((1 : Int32) - v7) v0)))
set_option maxHeartbeats 4000000 in
set_option maxRecDepth 100000 in
theorem bX9_machineBehind_62 {K : HK} {E : HE} {r : Int32} {g' : PH} {k45 : PH → Nat → Int32 → Int32 → Int32 → Int32 → Int32 → Option (Int32 × PH)} (C : VC K E 11 cX9_machineBehind RX9 (some .int)) (hk45 : ∀ (g : PH) (v0 : Nat) (v1 : Int32) (v3 : Int32) (v4 : Int32) (v5 : Int32) (v7 : Int32), k45 g v0 v1 v3 v4 v5 v7 = some (r, g') → V K E (hRm 7 165 0 0) 11 (hZ K E (some (.int r)) g' 0 0) 0 0 (kS K) g 45 [(0, .ref v0), (1, .int v1), (3, .int v3), (4, .int v4), (5, .int v5), (7, .int v7)] []) : ∀ (n : Nat) (g : PH) (v0 : Nat) (v1 : Int32) (v3 : Int32) (v4 : Int32) (v5 : Int32) (v7 : Int32) (v8 : Int32) (v9 : Int32), fX9_machineBehind_62 k45 n g v0 v1 v3 v4 v5 v7 v8 v9 = some (r, g') → V K E (hRm 7 165 0 0) 11 (hZ K E (some (.int r)) g' 0 0) 0 0 (kS K) g 62 [(0, .ref v0), (1, .int v1), (3, .int v3), (4, .int v4), (5, .int v5), (7, .int v7), (8, .int v8), (9, .int v9)] [] := by
  intro n
  induction n with
  | zero =>
    intro g v0 v1 v3 v4 v5 v7 v8 v9 hf
    rw [fX9_machineBehind_62] at hf
    cases hf
  | succ n ih =>
    intro g v0 v1 v3 v4 v5 v7 v8 v9 hf
    rw [fX9_machineBehind_62] at hf
    refine V.iload (pc := 62) C dX9_machineBehind_62 7 rfl ?_
    refine V.iload (pc := 64) C dX9_machineBehind_64 4 rfl ?_
    refine V.icmp_ge (pc := 66) (t := 134) C dX9_machineBehind_66 (by decide) (fun c1 => ?_) (fun c1 => ?_)
    · replace hf := ite_t c1 hf
      refine V.iinc (pc := 134) (v := (v7 + (1 : Int32))) (L' := [(7, .int (v7 + (1 : Int32))), (0, .ref v0), (1, .int v1), (3, .int v3), (4, .int v4), (5, .int v5), (8, .int v8), (9, .int v9)]) C dX9_machineBehind_134 5 rfl rfl (by decide) rfl ?_
      refine V.goto (pc := 137) (t := 45) C dX9_machineBehind_137 (by decide) ?_
      refine V.sub (L' := [(0, .ref v0), (1, .int v1), (3, .int v3), (4, .int v4), (5, .int v5), (7, .int (v7 + (1 : Int32)))]) [1, 2, 3, 4, 5, 0] rfl ?_
      exact hk45 _ _ _ _ _ _ _ hf
    replace hf := ite_f c1 hf
    refine V.aload_n (pc := 69) C dX9_machineBehind_69 0 rfl ?_
    refine V.iload (pc := 70) C dX9_machineBehind_70 3 rfl ?_
    refine V.iload (pc := 72) C dX9_machineBehind_72 4 rfl ?_
    refine V.iload (pc := 74) C dX9_machineBehind_74 7 rfl ?_
    replace hf := ob_some hf
    obtain ⟨q2, h3, hf⟩ := hf
    refine V.callV0i (pc := 76) C hyX9_stepOp wd_1460 (mX9_stepOp (r := q2.1) (g' := q2.2) K.2.1 E (kS K) h3) rfl rfl rfl (oX9_stepOp h3) ⟨Nat.le_of_ble_eq_true rfl, Nat.le_of_ble_eq_true rfl⟩ (Nat.le_of_ble_eq_true rfl) dX9_machineBehind_76 ⟨Nat.zero_le _, Nat.zero_le _⟩ rfl ?_
    refine V.istore (pc := 79) (L' := [(10, .int q2.1), (0, .ref v0), (1, .int v1), (3, .int v3), (4, .int v4), (5, .int v5), (7, .int v7), (8, .int v8), (9, .int v9)]) C dX9_machineBehind_79 (by decide) rfl ?_
    refine V.aload_n (pc := 81) C dX9_machineBehind_81 1 rfl ?_
    refine V.iload_n (pc := 82) C dX9_machineBehind_82 3 rfl ?_
    refine V.if_ne (pc := 83) (t := 91) C dX9_machineBehind_83 (by decide) (fun c4 => ?_) (fun c4 => ?_)
    · replace hf := ite_f c4 hf
      refine V.iconst (pc := 91) C dX9_machineBehind_91 (v := (1 : Int32)) (by decide) ?_
      refine V.iload (pc := 92) C dX9_machineBehind_92 6 rfl ?_
      refine V.isub (pc := 94) C dX9_machineBehind_94 ?_
      refine V.sub (L' := [(0, .ref v0), (1, .int v1), (3, .int v3), (4, .int v4), (5, .int v5), (7, .int v7), (8, .int v8), (9, .int v9), (10, .int q2.1)]) [1, 2, 3, 4, 5, 6, 7, 8, 0] rfl ?_
      exact bX9_machineBehind_95 C hk45 ih hf
    replace hf := ite_t c4 hf
    refine V.iload (pc := 86) C dX9_machineBehind_86 6 rfl ?_
    refine V.goto (pc := 88) (t := 95) C dX9_machineBehind_88 (by decide) ?_
    refine V.sub (L' := [(0, .ref v0), (1, .int v1), (3, .int v3), (4, .int v4), (5, .int v5), (7, .int v7), (8, .int v8), (9, .int v9), (10, .int q2.1)]) [1, 2, 3, 4, 5, 6, 7, 8, 0] rfl ?_
    exact bX9_machineBehind_95 C hk45 ih hf
def fX9_machineBehind_45  : Nat → PH → Nat → Int32 → Int32 → Int32 → Int32 → Int32 → Option (Int32 × PH)
  | 0, _, _, _, _, _, _, _ => none
  | n + 1, g, v0, v1, v3, v4, v5, v7 =>
  if (2 : Int32) ≤ v7 then ((getI g v0 9 20).bind fun x2 =>
  (if x2 ≤ 0 then ((getR g v0 9 16).bind fun p5 =>
  ((ldI g p5 0 (0 : Int32)).bind fun x7 =>
  (some (x7, g)))) else
  (some ((4 : Int32), g)))) else
  ((fX9_partOf g v0 v1 (0 : Int32)).bind fun q9 =>
  (fX9_machineBehind_62 (fX9_machineBehind_45 n) FUEL q9.2 v0 v1 v3 v4 v5 v7 q9.1 (0 : Int32)))
set_option maxHeartbeats 4000000 in
set_option maxRecDepth 100000 in
theorem bX9_machineBehind_45 {K : HK} {E : HE} {r : Int32} {g' : PH}  (C : VC K E 11 cX9_machineBehind RX9 (some .int))  : ∀ (n : Nat) (g : PH) (v0 : Nat) (v1 : Int32) (v3 : Int32) (v4 : Int32) (v5 : Int32) (v7 : Int32), fX9_machineBehind_45  n g v0 v1 v3 v4 v5 v7 = some (r, g') → V K E (hRm 7 165 0 0) 11 (hZ K E (some (.int r)) g' 0 0) 0 0 (kS K) g 45 [(0, .ref v0), (1, .int v1), (3, .int v3), (4, .int v4), (5, .int v5), (7, .int v7)] [] := by
  intro n
  induction n with
  | zero =>
    intro g v0 v1 v3 v4 v5 v7 hf
    rw [fX9_machineBehind_45] at hf
    cases hf
  | succ n ih =>
    intro g v0 v1 v3 v4 v5 v7 hf
    rw [fX9_machineBehind_45] at hf
    refine V.iload (pc := 45) C dX9_machineBehind_45 5 rfl ?_
    refine V.iconst (pc := 47) C dX9_machineBehind_47 (v := (2 : Int32)) (by decide) ?_
    refine V.icmp_ge (pc := 48) (t := 140) C dX9_machineBehind_48 (by decide) (fun c1 => ?_) (fun c1 => ?_)
    · replace hf := ite_t c1 hf
      refine V.aload_n (pc := 140) C dX9_machineBehind_140 0 rfl ?_
      replace hf := ob_some hf
      obtain ⟨x2, h3, hf⟩ := hf
      refine V.getI (pc := 141) C kX9 (k := 20) (by decide) wd_1070 h3 dX9_machineBehind_141 ?_
      refine V.if_le (pc := 144) (t := 151) C dX9_machineBehind_144 (by decide) (fun c4 => ?_) (fun c4 => ?_)
      · replace hf := ite_t c4 hf
        refine V.aload_n (pc := 151) C dX9_machineBehind_151 0 rfl ?_
        replace hf := ob_some hf
        obtain ⟨p5, h6, hf⟩ := hf
        refine V.getR (pc := 152) C kX9 (k := 16) (by decide) wd_1066 h6 dX9_machineBehind_152 ?_
        refine V.iconst (pc := 155) C dX9_machineBehind_155 (v := (0 : Int32)) (by decide) ?_
        replace hf := ob_some hf
        obtain ⟨x7, h8, hf⟩ := hf
        refine V.iald (pc := 156) C h8 dX9_machineBehind_156 ?_
        obtain ⟨f1, f2⟩ := fin2 hf
        clear hf
        subst f1
        subst f2
        exact V.iret (pc := 157) C rfl dX9_machineBehind_157
      replace hf := ite_f c4 hf
      refine V.iconst (pc := 147) C dX9_machineBehind_147 (v := (4 : Int32)) (by decide) ?_
      refine V.goto (pc := 148) (t := 157) C dX9_machineBehind_148 (by decide) ?_
      obtain ⟨f1, f2⟩ := fin2 hf
      clear hf
      subst f1
      subst f2
      exact V.iret (pc := 157) C rfl dX9_machineBehind_157
    replace hf := ite_f c1 hf
    refine V.aload_n (pc := 51) C dX9_machineBehind_51 0 rfl ?_
    refine V.iload_n (pc := 52) C dX9_machineBehind_52 1 rfl ?_
    refine V.iconst (pc := 53) C dX9_machineBehind_53 (v := (0 : Int32)) (by decide) ?_
    replace hf := ob_some hf
    obtain ⟨q9, h10, hf⟩ := hf
    refine V.callV0i (pc := 54) C hyX9_partOf wd_1452 (mX9_partOf (r := q9.1) (g' := q9.2) K.2.1 E (kS K) h10) rfl rfl rfl (oX9_partOf h10) ⟨Nat.le_of_ble_eq_true rfl, Nat.le_of_ble_eq_true rfl⟩ (Nat.le_of_ble_eq_true rfl) dX9_machineBehind_54 ⟨Nat.zero_le _, Nat.zero_le _⟩ rfl ?_
    refine V.istore (pc := 57) (L' := [(8, .int q9.1), (0, .ref v0), (1, .int v1), (3, .int v3), (4, .int v4), (5, .int v5), (7, .int v7)]) C dX9_machineBehind_57 (by decide) rfl ?_
    refine V.iconst (pc := 59) C dX9_machineBehind_59 (v := (0 : Int32)) (by decide) ?_
    refine V.istore (pc := 60) (L' := [(9, .int (0 : Int32)), (8, .int q9.1), (0, .ref v0), (1, .int v1), (3, .int v3), (4, .int v4), (5, .int v5), (7, .int v7)]) C dX9_machineBehind_60 (by decide) rfl ?_
    refine V.sub (L' := [(0, .ref v0), (1, .int v1), (3, .int v3), (4, .int v4), (5, .int v5), (7, .int v7), (8, .int q9.1), (9, .int (0 : Int32))]) [2, 3, 4, 5, 6, 7, 1, 0] rfl ?_
    exact bX9_machineBehind_62 C ih _ _ _ _ _ _ _ _ _ _ hf
def fX9_machineBehind (g : PH) (a0 : Nat) (a1 : Int32) (a2 : Int32) (a3 : Int32) (a4 : Int32) (a5 : Int32) : Option (Int32 × PH) :=
  okb (isO g a0 9) ((fX9_partOf g a0 a1 (a2 + (1 : Int32))).bind fun q1 =>
  (if q1.1 = (4 : Int32) then (some ((4 : Int32), q1.2)) else
  ((fX9_triesMachine q1.2 a0 a2 (0 : Int32)).bind fun q4 =>
  ((getR q4.2 a0 9 16).bind fun p6 =>
  ((stI q4.2 p6 0 (0 : Int32) q1.1).bind fun g8 =>
  ((putV g8 a0 9 20 (.int (0 : Int32))).bind fun g10 =>
  ((putV g10 a0 9 22 (.int (0 : Int32))).bind fun g12 =>
  (fX9_machineBehind_45 FUEL g12 a0 a1 a3 a4 a5 (0 : Int32)))))))))
theorem oX9_machineBehind {g : PH} {a0 : Nat} {a1 : Int32} {a2 : Int32} {a3 : Int32} {a4 : Int32} {a5 : Int32} {q : (Int32 × PH)} (h : fX9_machineBehind g a0 a1 a2 a3 a4 a5 = some q) : isO g a0 9 = true := by unfold fX9_machineBehind at h; exact (okb_some h).1
theorem hyX9_machineBehind : hMet yX9_machineBehind RX9 cX9_machineBehind 11 (some .int) 5 := ⟨wd_1467, wd_1466, ws_105, wd_7, rfl, by decide +kernel, by decide +kernel, by decide +kernel⟩
set_option maxHeartbeats 4000000 in
set_option maxRecDepth 100000 in
theorem mX9_machineBehind (l : Launch) (E : HE) (sz : Nat) {g g' : PH} {a0 : Nat} {a1 : Int32} {a2 : Int32} {a3 : Int32} {a4 : Int32} {a5 : Int32} {r : Int32} (hf : fX9_machineBehind g a0 a1 a2 a3 a4 a5 = some (r, g')) : hM l E yX9_machineBehind cX9_machineBehind 11 (some .int) 7 165 0 0 sz g [.ref a0, .int a1, .int a2, .int a3, .int a4, .int a5] (some (.int r)) g' := by
  refine hM.of (by decide) (Nat.le_of_ble_eq_true rfl) (fun K hl C hin hsz => ?_)
  subst hl
  subst hsz
  have C : VC K E 11 cX9_machineBehind RX9 (some .int) := C
  unfold fX9_machineBehind at hf
  replace hf := okb_some hf
  obtain ⟨ho, hf⟩ := hf
  refine V.start (L' := [(0, .ref a0), (1, .int a1), (2, .int a2), (3, .int a3), (4, .int a4), (5, .int a5)]) rfl ?_
  refine V.aload_n (pc := 0) C dX9_machineBehind_0 0 rfl ?_
  refine V.iload_n (pc := 1) C dX9_machineBehind_1 1 rfl ?_
  refine V.iload_n (pc := 2) C dX9_machineBehind_2 2 rfl ?_
  refine V.iconst (pc := 3) C dX9_machineBehind_3 (v := (1 : Int32)) (by decide) ?_
  refine V.iadd (pc := 4) C dX9_machineBehind_4 ?_
  replace hf := ob_some hf
  obtain ⟨q1, h2, hf⟩ := hf
  refine V.callV0i (pc := 5) C hyX9_partOf wd_1452 (mX9_partOf (r := q1.1) (g' := q1.2) K.2.1 E (kS K) h2) rfl rfl rfl (oX9_partOf h2) ⟨Nat.le_of_ble_eq_true rfl, Nat.le_of_ble_eq_true rfl⟩ (Nat.le_of_ble_eq_true rfl) dX9_machineBehind_5 ⟨Nat.zero_le _, Nat.zero_le _⟩ rfl ?_
  refine V.istore (pc := 8) (L' := [(6, .int q1.1), (0, .ref a0), (1, .int a1), (2, .int a2), (3, .int a3), (4, .int a4), (5, .int a5)]) C dX9_machineBehind_8 (by decide) rfl ?_
  refine V.iload (pc := 10) C dX9_machineBehind_10 0 rfl ?_
  refine V.iconst (pc := 12) C dX9_machineBehind_12 (v := (4 : Int32)) (by decide) ?_
  refine V.icmp_ne (pc := 13) (t := 18) C dX9_machineBehind_13 (by decide) (fun c3 => ?_) (fun c3 => ?_)
  · replace hf := ite_f c3 hf
    refine V.aload_n (pc := 18) C dX9_machineBehind_18 1 rfl ?_
    refine V.iload_n (pc := 19) C dX9_machineBehind_19 3 rfl ?_
    refine V.iconst (pc := 20) C dX9_machineBehind_20 (v := (0 : Int32)) (by decide) ?_
    replace hf := ob_some hf
    obtain ⟨q4, h5, hf⟩ := hf
    refine V.callV0v (pc := 21) C hyX9_triesMachine wd_1437 (mX9_triesMachine (r := q4.1) (g' := q4.2) K.2.1 E (kS K) h5) rfl rfl rfl (oX9_triesMachine h5) ⟨Nat.le_of_ble_eq_true rfl, Nat.le_of_ble_eq_true rfl⟩ (Nat.le_of_ble_eq_true rfl) dX9_machineBehind_21 ⟨Nat.zero_le _, Nat.zero_le _⟩ rfl ?_
    refine V.aload_n (pc := 24) C dX9_machineBehind_24 1 rfl ?_
    replace hf := ob_some hf
    obtain ⟨p6, h7, hf⟩ := hf
    refine V.getR (pc := 25) C kX9 (k := 16) (by decide) wd_1066 h7 dX9_machineBehind_25 ?_
    refine V.iconst (pc := 28) C dX9_machineBehind_28 (v := (0 : Int32)) (by decide) ?_
    refine V.iload (pc := 29) C dX9_machineBehind_29 0 rfl ?_
    replace hf := ob_some hf
    obtain ⟨g8, h9, hf⟩ := hf
    refine V.iast (pc := 31) C h9 dX9_machineBehind_31 ?_
    refine V.aload_n (pc := 32) C dX9_machineBehind_32 1 rfl ?_
    refine V.iconst (pc := 33) C dX9_machineBehind_33 (v := (0 : Int32)) (by decide) ?_
    replace hf := ob_some hf
    obtain ⟨g10, h11, hf⟩ := hf
    refine V.putX (pc := 34) C kX9 (k := 20) (by decide) wd_1070 rfl rfl rfl h11 dX9_machineBehind_34 ?_
    refine V.aload_n (pc := 37) C dX9_machineBehind_37 1 rfl ?_
    refine V.iconst (pc := 38) C dX9_machineBehind_38 (v := (0 : Int32)) (by decide) ?_
    replace hf := ob_some hf
    obtain ⟨g12, h13, hf⟩ := hf
    refine V.putX (pc := 39) C kX9 (k := 22) (by decide) wd_1072 rfl rfl rfl h13 dX9_machineBehind_39 ?_
    refine V.iconst (pc := 42) C dX9_machineBehind_42 (v := (0 : Int32)) (by decide) ?_
    refine V.istore (pc := 43) (L' := [(7, .int (0 : Int32)), (6, .int q1.1), (0, .ref a0), (1, .int a1), (2, .int a2), (3, .int a3), (4, .int a4), (5, .int a5)]) C dX9_machineBehind_43 (by decide) rfl ?_
    refine V.sub (L' := [(0, .ref a0), (1, .int a1), (3, .int a3), (4, .int a4), (5, .int a5), (7, .int (0 : Int32))]) [2, 3, 5, 6, 7, 0] rfl ?_
    exact bX9_machineBehind_45 C  _ _ _ _ _ _ _ _ hf
  replace hf := ite_t c3 hf
  refine V.iconst (pc := 16) C dX9_machineBehind_16 (v := (4 : Int32)) (by decide) ?_
  obtain ⟨f1, f2⟩ := fin2 hf
  clear hf
  subst f1
  subst f2
  exact V.iret (pc := 17) C rfl dX9_machineBehind_17
theorem dX9_pow_0 : decode cX9_pow 0 = .ok (.iload_n 0, 1) := by decide +kernel
theorem dX9_pow_1 : decode cX9_pow 1 = .ok (.iconst 1, 1) := by decide +kernel
theorem dX9_pow_2 : decode cX9_pow 2 = .ok (.if_icmp .ne 7, 3) := by decide +kernel
theorem dX9_pow_5 : decode cX9_pow 5 = .ok (.iconst 3, 1) := by decide +kernel
theorem dX9_pow_6 : decode cX9_pow 6 = .ok (.goto 15, 3) := by decide +kernel
theorem dX9_pow_9 : decode cX9_pow 9 = .ok (.iload_n 0, 1) := by decide +kernel
theorem dX9_pow_10 : decode cX9_pow 10 = .ok (.iconst 2, 1) := by decide +kernel
theorem dX9_pow_11 : decode cX9_pow 11 = .ok (.if_icmp .ne 8, 3) := by decide +kernel
theorem dX9_pow_14 : decode cX9_pow 14 = .ok (.bipush 9, 2) := by decide +kernel
theorem dX9_pow_16 : decode cX9_pow 16 = .ok (.goto 5, 3) := by decide +kernel
theorem dX9_pow_19 : decode cX9_pow 19 = .ok (.bipush 27, 2) := by decide +kernel
theorem dX9_pow_21 : decode cX9_pow 21 = .ok (.ireturn, 1) := by decide +kernel
def fX9_pow (g : PH) (a0 : Int32) : Option (Int32 × PH) :=
  if a0 = (1 : Int32) then (some ((3 : Int32), g)) else
  (if a0 = (2 : Int32) then (some ((9 : Int32), g)) else
  (some ((27 : Int32), g)))
theorem hyX9_pow : hMetS yX9_pow cX9_pow 1 (some .int) 1 := ⟨wd_1451, wd_1450, wd_7, by decide +kernel, by decide +kernel, by decide +kernel⟩
set_option maxHeartbeats 4000000 in
set_option maxRecDepth 100000 in
theorem mX9_pow (l : Launch) (E : HE) (sz : Nat) {g g' : PH} {a0 : Int32} {r : Int32} (hf : fX9_pow g a0 = some (r, g')) : hM l E yX9_pow cX9_pow 1 (some .int) 0 0 0 0 sz g [.int a0] (some (.int r)) g' := by
  refine hM.of (by decide) (Nat.le_of_ble_eq_true rfl) (fun K hl C hin hsz => ?_)
  subst hl
  subst hsz
  have C : VC K E 1 cX9_pow RX9 (some .int) := C
  unfold fX9_pow at hf
  refine V.start (L' := [(0, .int a0)]) rfl ?_
  refine V.iload_n (pc := 0) C dX9_pow_0 0 rfl ?_
  refine V.iconst (pc := 1) C dX9_pow_1 (v := (1 : Int32)) (by decide) ?_
  refine V.icmp_ne (pc := 2) (t := 9) C dX9_pow_2 (by decide) (fun c1 => ?_) (fun c1 => ?_)
  · replace hf := ite_f c1 hf
    refine V.iload_n (pc := 9) C dX9_pow_9 0 rfl ?_
    refine V.iconst (pc := 10) C dX9_pow_10 (v := (2 : Int32)) (by decide) ?_
    refine V.icmp_ne (pc := 11) (t := 19) C dX9_pow_11 (by decide) (fun c2 => ?_) (fun c2 => ?_)
    · replace hf := ite_f c2 hf
      refine V.bipush (pc := 19) C dX9_pow_19 (v := (27 : Int32)) (by decide) ?_
      obtain ⟨f1, f2⟩ := fin2 hf
      clear hf
      subst f1
      subst f2
      exact V.iret (pc := 21) C rfl dX9_pow_21
    replace hf := ite_t c2 hf
    refine V.bipush (pc := 14) C dX9_pow_14 (v := (9 : Int32)) (by decide) ?_
    refine V.goto (pc := 16) (t := 21) C dX9_pow_16 (by decide) ?_
    obtain ⟨f1, f2⟩ := fin2 hf
    clear hf
    subst f1
    subst f2
    exact V.iret (pc := 21) C rfl dX9_pow_21
  replace hf := ite_t c1 hf
  refine V.iconst (pc := 5) C dX9_pow_5 (v := (3 : Int32)) (by decide) ?_
  refine V.goto (pc := 6) (t := 21) C dX9_pow_6 (by decide) ?_
  obtain ⟨f1, f2⟩ := fin2 hf
  clear hf
  subst f1
  subst f2
  exact V.iret (pc := 21) C rfl dX9_pow_21
theorem dX9_stepsFrom_0 : decode cX9_stepsFrom 0 = .ok (.iconst 0, 1) := by decide +kernel
theorem dX9_stepsFrom_1 : decode cX9_stepsFrom 1 = .ok (.istore 4, 2) := by decide +kernel
theorem dX9_stepsFrom_3 : decode cX9_stepsFrom 3 = .ok (.iload 4, 2) := by decide +kernel
theorem dX9_stepsFrom_5 : decode cX9_stepsFrom 5 = .ok (.iconst 2, 1) := by decide +kernel
theorem dX9_stepsFrom_6 : decode cX9_stepsFrom 6 = .ok (.iload_n 2, 1) := by decide +kernel
theorem dX9_stepsFrom_7 : decode cX9_stepsFrom 7 = .ok (.invokestatic 319, 3) := by decide +kernel
theorem dX9_stepsFrom_10 : decode cX9_stepsFrom 10 = .ok (.imul, 1) := by decide +kernel
theorem dX9_stepsFrom_11 : decode cX9_stepsFrom 11 = .ok (.if_icmp .ge 157, 3) := by decide +kernel
theorem dX9_stepsFrom_14 : decode cX9_stepsFrom 14 = .ok (.iload 4, 2) := by decide +kernel
theorem dX9_stepsFrom_16 : decode cX9_stepsFrom 16 = .ok (.iload_n 2, 1) := by decide +kernel
theorem dX9_stepsFrom_17 : decode cX9_stepsFrom 17 = .ok (.invokestatic 319, 3) := by decide +kernel
theorem dX9_stepsFrom_20 : decode cX9_stepsFrom 20 = .ok (.idiv, 1) := by decide +kernel
theorem dX9_stepsFrom_21 : decode cX9_stepsFrom 21 = .ok (.istore 5, 2) := by decide +kernel
theorem dX9_stepsFrom_23 : decode cX9_stepsFrom 23 = .ok (.iload 4, 2) := by decide +kernel
theorem dX9_stepsFrom_25 : decode cX9_stepsFrom 25 = .ok (.iload_n 2, 1) := by decide +kernel
theorem dX9_stepsFrom_26 : decode cX9_stepsFrom 26 = .ok (.invokestatic 319, 3) := by decide +kernel
theorem dX9_stepsFrom_29 : decode cX9_stepsFrom 29 = .ok (.irem, 1) := by decide +kernel
theorem dX9_stepsFrom_30 : decode cX9_stepsFrom 30 = .ok (.istore 6, 2) := by decide +kernel
theorem dX9_stepsFrom_32 : decode cX9_stepsFrom 32 = .ok (.aload_n 0, 1) := by decide +kernel
theorem dX9_stepsFrom_33 : decode cX9_stepsFrom 33 = .ok (.aload_n 0, 1) := by decide +kernel
theorem dX9_stepsFrom_34 : decode cX9_stepsFrom 34 = .ok (.iload_n 1, 1) := by decide +kernel
theorem dX9_stepsFrom_35 : decode cX9_stepsFrom 35 = .ok (.iconst 0, 1) := by decide +kernel
theorem dX9_stepsFrom_36 : decode cX9_stepsFrom 36 = .ok (.invokevirtual 316, 3) := by decide +kernel
theorem dX9_stepsFrom_39 : decode cX9_stepsFrom 39 = .ok (.iload 6, 2) := by decide +kernel
theorem dX9_stepsFrom_41 : decode cX9_stepsFrom 41 = .ok (.iload_n 2, 1) := by decide +kernel
theorem dX9_stepsFrom_42 : decode cX9_stepsFrom 42 = .ok (.invokevirtual 322, 3) := by decide +kernel
theorem dX9_stepsFrom_45 : decode cX9_stepsFrom 45 = .ok (.istore 7, 2) := by decide +kernel
theorem dX9_stepsFrom_47 : decode cX9_stepsFrom 47 = .ok (.iload 7, 2) := by decide +kernel
theorem dX9_stepsFrom_49 : decode cX9_stepsFrom 49 = .ok (.ifCond .ge 6, 3) := by decide +kernel
theorem dX9_stepsFrom_52 : decode cX9_stepsFrom 52 = .ok (.goto 110, 3) := by decide +kernel
theorem dX9_stepsFrom_55 : decode cX9_stepsFrom 55 = .ok (.aload_n 0, 1) := by decide +kernel
theorem dX9_stepsFrom_56 : decode cX9_stepsFrom 56 = .ok (.iconst 0, 1) := by decide +kernel
theorem dX9_stepsFrom_57 : decode cX9_stepsFrom 57 = .ok (.iload 7, 2) := by decide +kernel
theorem dX9_stepsFrom_59 : decode cX9_stepsFrom 59 = .ok (.i2l, 1) := by decide +kernel
theorem dX9_stepsFrom_60 : decode cX9_stepsFrom 60 = .ok (.invokevirtual 303, 3) := by decide +kernel
theorem dX9_stepsFrom_63 : decode cX9_stepsFrom 63 = .ok (.iconst 0, 1) := by decide +kernel
theorem dX9_stepsFrom_64 : decode cX9_stepsFrom 64 = .ok (.istore 8, 2) := by decide +kernel
theorem dX9_stepsFrom_66 : decode cX9_stepsFrom 66 = .ok (.iload 8, 2) := by decide +kernel
theorem dX9_stepsFrom_68 : decode cX9_stepsFrom 68 = .ok (.aload_n 0, 1) := by decide +kernel
theorem dX9_stepsFrom_69 : decode cX9_stepsFrom 69 = .ok (.getfield 295, 3) := by decide +kernel
theorem dX9_stepsFrom_72 : decode cX9_stepsFrom 72 = .ok (.if_icmp .ge 30, 3) := by decide +kernel
theorem dX9_stepsFrom_75 : decode cX9_stepsFrom 75 = .ok (.aload_n 0, 1) := by decide +kernel
theorem dX9_stepsFrom_76 : decode cX9_stepsFrom 76 = .ok (.iload 8, 2) := by decide +kernel
theorem dX9_stepsFrom_78 : decode cX9_stepsFrom 78 = .ok (.iconst 1, 1) := by decide +kernel
theorem dX9_stepsFrom_79 : decode cX9_stepsFrom 79 = .ok (.iadd, 1) := by decide +kernel
theorem dX9_stepsFrom_80 : decode cX9_stepsFrom 80 = .ok (.aload_n 0, 1) := by decide +kernel
theorem dX9_stepsFrom_81 : decode cX9_stepsFrom 81 = .ok (.iload_n 1, 1) := by decide +kernel
theorem dX9_stepsFrom_82 : decode cX9_stepsFrom 82 = .ok (.iload 8, 2) := by decide +kernel
theorem dX9_stepsFrom_84 : decode cX9_stepsFrom 84 = .ok (.iload 5, 2) := by decide +kernel
theorem dX9_stepsFrom_86 : decode cX9_stepsFrom 86 = .ok (.iload 6, 2) := by decide +kernel
theorem dX9_stepsFrom_88 : decode cX9_stepsFrom 88 = .ok (.iload_n 2, 1) := by decide +kernel
theorem dX9_stepsFrom_89 : decode cX9_stepsFrom 89 = .ok (.invokevirtual 325, 3) := by decide +kernel
theorem dX9_stepsFrom_92 : decode cX9_stepsFrom 92 = .ok (.i2l, 1) := by decide +kernel
theorem dX9_stepsFrom_93 : decode cX9_stepsFrom 93 = .ok (.invokevirtual 303, 3) := by decide +kernel
theorem dX9_stepsFrom_96 : decode cX9_stepsFrom 96 = .ok (.iinc 8 1, 3) := by decide +kernel
theorem dX9_stepsFrom_99 : decode cX9_stepsFrom 99 = .ok (.goto (-33), 3) := by decide +kernel
theorem dX9_stepsFrom_102 : decode cX9_stepsFrom 102 = .ok (.aload_n 0, 1) := by decide +kernel
theorem dX9_stepsFrom_103 : decode cX9_stepsFrom 103 = .ok (.invokevirtual 329, 3) := by decide +kernel
theorem dX9_stepsFrom_106 : decode cX9_stepsFrom 106 = .ok (.ifCond .lt 6, 3) := by decide +kernel
theorem dX9_stepsFrom_109 : decode cX9_stepsFrom 109 = .ok (.goto 53, 3) := by decide +kernel
theorem dX9_stepsFrom_112 : decode cX9_stepsFrom 112 = .ok (.aload_n 0, 1) := by decide +kernel
theorem dX9_stepsFrom_113 : decode cX9_stepsFrom 113 = .ok (.invokevirtual 332, 3) := by decide +kernel
theorem dX9_stepsFrom_116 : decode cX9_stepsFrom 116 = .ok (.istore 8, 2) := by decide +kernel
theorem dX9_stepsFrom_118 : decode cX9_stepsFrom 118 = .ok (.iload 8, 2) := by decide +kernel
theorem dX9_stepsFrom_120 : decode cX9_stepsFrom 120 = .ok (.ifCond .ne 16, 3) := by decide +kernel
theorem dX9_stepsFrom_123 : decode cX9_stepsFrom 123 = .ok (.aload_n 0, 1) := by decide +kernel
theorem dX9_stepsFrom_124 : decode cX9_stepsFrom 124 = .ok (.getfield 292, 3) := by decide +kernel
theorem dX9_stepsFrom_127 : decode cX9_stepsFrom 127 = .ok (.sipush 1200, 3) := by decide +kernel
theorem dX9_stepsFrom_130 : decode cX9_stepsFrom 130 = .ok (.if_icmp .ne 6, 3) := by decide +kernel
theorem dX9_stepsFrom_133 : decode cX9_stepsFrom 133 = .ok (.bipush (-3), 2) := by decide +kernel
theorem dX9_stepsFrom_135 : decode cX9_stepsFrom 135 = .ok (.ireturn, 1) := by decide +kernel
theorem dX9_stepsFrom_136 : decode cX9_stepsFrom 136 = .ok (.aload_n 0, 1) := by decide +kernel
theorem dX9_stepsFrom_137 : decode cX9_stepsFrom 137 = .ok (.iload_n 3, 1) := by decide +kernel
theorem dX9_stepsFrom_138 : decode cX9_stepsFrom 138 = .ok (.iload_n 1, 1) := by decide +kernel
theorem dX9_stepsFrom_139 : decode cX9_stepsFrom 139 = .ok (.bipush 100, 2) := by decide +kernel
theorem dX9_stepsFrom_141 : decode cX9_stepsFrom 141 = .ok (.iload_n 2, 1) := by decide +kernel
theorem dX9_stepsFrom_142 : decode cX9_stepsFrom 142 = .ok (.imul, 1) := by decide +kernel
theorem dX9_stepsFrom_143 : decode cX9_stepsFrom 143 = .ok (.bipush 27, 2) := by decide +kernel
theorem dX9_stepsFrom_145 : decode cX9_stepsFrom 145 = .ok (.iload 5, 2) := by decide +kernel
theorem dX9_stepsFrom_147 : decode cX9_stepsFrom 147 = .ok (.imul, 1) := by decide +kernel
theorem dX9_stepsFrom_148 : decode cX9_stepsFrom 148 = .ok (.iadd, 1) := by decide +kernel
theorem dX9_stepsFrom_149 : decode cX9_stepsFrom 149 = .ok (.iload 6, 2) := by decide +kernel
theorem dX9_stepsFrom_151 : decode cX9_stepsFrom 151 = .ok (.iadd, 1) := by decide +kernel
theorem dX9_stepsFrom_152 : decode cX9_stepsFrom 152 = .ok (.invokevirtual 310, 3) := by decide +kernel
theorem dX9_stepsFrom_155 : decode cX9_stepsFrom 155 = .ok (.iload 8, 2) := by decide +kernel
theorem dX9_stepsFrom_157 : decode cX9_stepsFrom 157 = .ok (.ifCond .eq 5, 3) := by decide +kernel
theorem dX9_stepsFrom_160 : decode cX9_stepsFrom 160 = .ok (.iconst 1, 1) := by decide +kernel
theorem dX9_stepsFrom_161 : decode cX9_stepsFrom 161 = .ok (.ireturn, 1) := by decide +kernel
theorem dX9_stepsFrom_162 : decode cX9_stepsFrom 162 = .ok (.iinc 4 1, 3) := by decide +kernel
theorem dX9_stepsFrom_165 : decode cX9_stepsFrom 165 = .ok (.goto (-162), 3) := by decide +kernel
theorem dX9_stepsFrom_168 : decode cX9_stepsFrom 168 = .ok (.iconst 0, 1) := by decide +kernel
theorem dX9_stepsFrom_169 : decode cX9_stepsFrom 169 = .ok (.ireturn, 1) := by decide +kernel
def fX9_stepsFrom_162 (k3 : PH → Nat → Int32 → Int32 → Int32 → Int32 → Option (Int32 × PH)) (g : PH) (v0 : Nat) (v1 : Int32) (v2 : Int32) (v3 : Int32) (v4 : Int32) : Option (Int32 × PH) :=
  k3 g v0 v1 v2 v3 (v4 + (1 : Int32))
set_option maxHeartbeats 4000000 in
set_option maxRecDepth 100000 in
theorem bX9_stepsFrom_162 {K : HK} {E : HE} {r : Int32} {g' : PH} {k3 : PH → Nat → Int32 → Int32 → Int32 → Int32 → Option (Int32 × PH)} (C : VC K E 9 cX9_stepsFrom RX9 (some .int)) (hk3 : ∀ (g : PH) (v0 : Nat) (v1 : Int32) (v2 : Int32) (v3 : Int32) (v4 : Int32), k3 g v0 v1 v2 v3 v4 = some (r, g') → V K E (hRm 8 195 0 0) 9 (hZ K E (some (.int r)) g' 0 0) 0 0 (kS K) g 3 [(0, .ref v0), (1, .int v1), (2, .int v2), (3, .int v3), (4, .int v4)] []) {g : PH} {v0 : Nat} {v1 : Int32} {v2 : Int32} {v3 : Int32} {v4 : Int32} (hf : fX9_stepsFrom_162 k3 g v0 v1 v2 v3 v4 = some (r, g')) : V K E (hRm 8 195 0 0) 9 (hZ K E (some (.int r)) g' 0 0) 0 0 (kS K) g 162 [(0, .ref v0), (1, .int v1), (2, .int v2), (3, .int v3), (4, .int v4)] [] := by
  unfold fX9_stepsFrom_162 at hf
  refine V.iinc (pc := 162) (v := (v4 + (1 : Int32))) (L' := [(4, .int (v4 + (1 : Int32))), (0, .ref v0), (1, .int v1), (2, .int v2), (3, .int v3)]) C dX9_stepsFrom_162 4 rfl rfl (by decide) rfl ?_
  refine V.goto (pc := 165) (t := 3) C dX9_stepsFrom_165 (by decide) ?_
  refine V.sub (L' := [(0, .ref v0), (1, .int v1), (2, .int v2), (3, .int v3), (4, .int (v4 + (1 : Int32)))]) [1, 2, 3, 4, 0] rfl ?_
  exact hk3 _ _ _ _ _ _ hf
def fX9_stepsFrom_136 (k3 : PH → Nat → Int32 → Int32 → Int32 → Int32 → Option (Int32 × PH)) (g : PH) (v0 : Nat) (v1 : Int32) (v2 : Int32) (v3 : Int32) (v4 : Int32) (v5 : Int32) (v6 : Int32) (v8 : Int32) : Option (Int32 × PH) :=
  (fX9_comes g v0 v3 v1 ((((100 : Int32) * v2) + ((27 : Int32) * v5)) + v6)).bind fun q1 =>
  (if v8 = 0 then (fX9_stepsFrom_162 (k3) q1.2 v0 v1 v2 v3 v4) else
  (some ((1 : Int32), q1.2)))
set_option maxHeartbeats 4000000 in
set_option maxRecDepth 100000 in
theorem bX9_stepsFrom_136 {K : HK} {E : HE} {r : Int32} {g' : PH} {k3 : PH → Nat → Int32 → Int32 → Int32 → Int32 → Option (Int32 × PH)} (C : VC K E 9 cX9_stepsFrom RX9 (some .int)) (hk3 : ∀ (g : PH) (v0 : Nat) (v1 : Int32) (v2 : Int32) (v3 : Int32) (v4 : Int32), k3 g v0 v1 v2 v3 v4 = some (r, g') → V K E (hRm 8 195 0 0) 9 (hZ K E (some (.int r)) g' 0 0) 0 0 (kS K) g 3 [(0, .ref v0), (1, .int v1), (2, .int v2), (3, .int v3), (4, .int v4)] []) {g : PH} {v0 : Nat} {v1 : Int32} {v2 : Int32} {v3 : Int32} {v4 : Int32} {v5 : Int32} {v6 : Int32} {v8 : Int32} (hf : fX9_stepsFrom_136 k3 g v0 v1 v2 v3 v4 v5 v6 v8 = some (r, g')) : V K E (hRm 8 195 0 0) 9 (hZ K E (some (.int r)) g' 0 0) 0 0 (kS K) g 136 [(0, .ref v0), (1, .int v1), (2, .int v2), (3, .int v3), (4, .int v4), (5, .int v5), (6, .int v6), (8, .int v8)] [] := by
  unfold fX9_stepsFrom_136 at hf
  refine V.aload_n (pc := 136) C dX9_stepsFrom_136 0 rfl ?_
  refine V.iload_n (pc := 137) C dX9_stepsFrom_137 3 rfl ?_
  refine V.iload_n (pc := 138) C dX9_stepsFrom_138 1 rfl ?_
  refine V.bipush (pc := 139) C dX9_stepsFrom_139 (v := (100 : Int32)) (by decide) ?_
  refine V.iload_n (pc := 141) C dX9_stepsFrom_141 2 rfl ?_
  refine V.imul (pc := 142) C dX9_stepsFrom_142 ?_
  refine V.bipush (pc := 143) C dX9_stepsFrom_143 (v := (27 : Int32)) (by decide) ?_
  refine V.iload (pc := 145) C dX9_stepsFrom_145 5 rfl ?_
  refine V.imul (pc := 147) C dX9_stepsFrom_147 ?_
  refine V.iadd (pc := 148) C dX9_stepsFrom_148 ?_
  refine V.iload (pc := 149) C dX9_stepsFrom_149 6 rfl ?_
  refine V.iadd (pc := 151) C dX9_stepsFrom_151 ?_
  replace hf := ob_some hf
  obtain ⟨q1, h2, hf⟩ := hf
  refine V.callV0v (pc := 152) C hyX9_comes wd_1441 (mX9_comes (r := q1.1) (g' := q1.2) K.2.1 E (kS K) h2) rfl rfl rfl (oX9_comes h2) ⟨Nat.le_of_ble_eq_true rfl, Nat.le_of_ble_eq_true rfl⟩ (Nat.le_of_ble_eq_true rfl) dX9_stepsFrom_152 ⟨Nat.zero_le _, Nat.zero_le _⟩ rfl ?_
  refine V.iload (pc := 155) C dX9_stepsFrom_155 7 rfl ?_
  refine V.if_eq (pc := 157) (t := 162) C dX9_stepsFrom_157 (by decide) (fun c3 => ?_) (fun c3 => ?_)
  · replace hf := ite_t c3 hf
    refine V.sub (L' := [(0, .ref v0), (1, .int v1), (2, .int v2), (3, .int v3), (4, .int v4)]) [0, 1, 2, 3, 4] rfl ?_
    exact bX9_stepsFrom_162 C hk3 hf
  replace hf := ite_f c3 hf
  refine V.iconst (pc := 160) C dX9_stepsFrom_160 (v := (1 : Int32)) (by decide) ?_
  obtain ⟨f1, f2⟩ := fin2 hf
  clear hf
  subst f1
  subst f2
  exact V.iret (pc := 161) C rfl dX9_stepsFrom_161
def fX9_stepsFrom_66 (k3 : PH → Nat → Int32 → Int32 → Int32 → Int32 → Option (Int32 × PH)) : Nat → PH → Nat → Int32 → Int32 → Int32 → Int32 → Int32 → Int32 → Int32 → Option (Int32 × PH)
  | 0, _, _, _, _, _, _, _, _, _ => none
  | n + 1, g, v0, v1, v2, v3, v4, v5, v6, v8 =>
  (getI g v0 9 30).bind fun x1 =>
  (if x1 ≤ v8 then ((fX9_stateBuilt g v0).bind fun q4 =>
  (if q4.1 < 0 then ((fX9_isAllFailed q4.2 v0).bind fun q7 =>
  (if q7.1 = 0 then ((getI q7.2 v0 9 29).bind fun x10 =>
  (if x10 = (1200 : Int32) then (some ((-3 : Int32), q7.2)) else
  (fX9_stepsFrom_136 (k3) q7.2 v0 v1 v2 v3 v4 v5 v6 q7.1))) else
  (fX9_stepsFrom_136 (k3) q7.2 v0 v1 v2 v3 v4 v5 v6 q7.1))) else
  (fX9_stepsFrom_162 (k3) q4.2 v0 v1 v2 v3 v4))) else
  ((fX9_machineBehind g v0 v1 v8 v5 v6 v2).bind fun q13 =>
  ((fX9_builds q13.2 v0 (v8 + (1 : Int32)) q13.1.toInt64).bind fun q15 =>
  (fX9_stepsFrom_66 k3 n q15.2 v0 v1 v2 v3 v4 v5 v6 (v8 + (1 : Int32))))))
set_option maxHeartbeats 4000000 in
set_option maxRecDepth 100000 in
theorem bX9_stepsFrom_66 {K : HK} {E : HE} {r : Int32} {g' : PH} {k3 : PH → Nat → Int32 → Int32 → Int32 → Int32 → Option (Int32 × PH)} (C : VC K E 9 cX9_stepsFrom RX9 (some .int)) (hk3 : ∀ (g : PH) (v0 : Nat) (v1 : Int32) (v2 : Int32) (v3 : Int32) (v4 : Int32), k3 g v0 v1 v2 v3 v4 = some (r, g') → V K E (hRm 8 195 0 0) 9 (hZ K E (some (.int r)) g' 0 0) 0 0 (kS K) g 3 [(0, .ref v0), (1, .int v1), (2, .int v2), (3, .int v3), (4, .int v4)] []) : ∀ (n : Nat) (g : PH) (v0 : Nat) (v1 : Int32) (v2 : Int32) (v3 : Int32) (v4 : Int32) (v5 : Int32) (v6 : Int32) (v8 : Int32), fX9_stepsFrom_66 k3 n g v0 v1 v2 v3 v4 v5 v6 v8 = some (r, g') → V K E (hRm 8 195 0 0) 9 (hZ K E (some (.int r)) g' 0 0) 0 0 (kS K) g 66 [(0, .ref v0), (1, .int v1), (2, .int v2), (3, .int v3), (4, .int v4), (5, .int v5), (6, .int v6), (8, .int v8)] [] := by
  intro n
  induction n with
  | zero =>
    intro g v0 v1 v2 v3 v4 v5 v6 v8 hf
    rw [fX9_stepsFrom_66] at hf
    cases hf
  | succ n ih =>
    intro g v0 v1 v2 v3 v4 v5 v6 v8 hf
    rw [fX9_stepsFrom_66] at hf
    refine V.iload (pc := 66) C dX9_stepsFrom_66 7 rfl ?_
    refine V.aload_n (pc := 68) C dX9_stepsFrom_68 0 rfl ?_
    replace hf := ob_some hf
    obtain ⟨x1, h2, hf⟩ := hf
    refine V.getI (pc := 69) C kX9 (k := 30) (by decide) wd_1080 h2 dX9_stepsFrom_69 ?_
    refine V.icmp_ge (pc := 72) (t := 102) C dX9_stepsFrom_72 (by decide) (fun c3 => ?_) (fun c3 => ?_)
    · replace hf := ite_t c3 hf
      refine V.aload_n (pc := 102) C dX9_stepsFrom_102 0 rfl ?_
      replace hf := ob_some hf
      obtain ⟨q4, h5, hf⟩ := hf
      refine V.callV0i (pc := 103) C hyX9_stateBuilt wd_1468 (mX9_stateBuilt (r := q4.1) (g' := q4.2) K.2.1 E (kS K) h5) rfl rfl rfl (oX9_stateBuilt h5) ⟨Nat.le_of_ble_eq_true rfl, Nat.le_of_ble_eq_true rfl⟩ (Nat.le_of_ble_eq_true rfl) dX9_stepsFrom_103 ⟨Nat.zero_le _, Nat.zero_le _⟩ rfl ?_
      refine V.if_lt (pc := 106) (t := 112) C dX9_stepsFrom_106 (by decide) (fun c6 => ?_) (fun c6 => ?_)
      · replace hf := ite_t c6 hf
        refine V.aload_n (pc := 112) C dX9_stepsFrom_112 0 rfl ?_
        replace hf := ob_some hf
        obtain ⟨q7, h8, hf⟩ := hf
        refine V.callV0i (pc := 113) C hyX9_isAllFailed wd_1472 (mX9_isAllFailed (r := q7.1) (g' := q7.2) K.2.1 E (kS K) h8) rfl rfl rfl (oX9_isAllFailed h8) ⟨Nat.le_of_ble_eq_true rfl, Nat.le_of_ble_eq_true rfl⟩ (Nat.le_of_ble_eq_true rfl) dX9_stepsFrom_113 ⟨Nat.zero_le _, Nat.zero_le _⟩ rfl ?_
        refine V.istore (pc := 116) (L' := [(8, .int q7.1), (0, .ref v0), (1, .int v1), (2, .int v2), (3, .int v3), (4, .int v4), (5, .int v5), (6, .int v6)]) C dX9_stepsFrom_116 (by decide) rfl ?_
        refine V.iload (pc := 118) C dX9_stepsFrom_118 0 rfl ?_
        refine V.if_ne (pc := 120) (t := 136) C dX9_stepsFrom_120 (by decide) (fun c9 => ?_) (fun c9 => ?_)
        · replace hf := ite_f c9 hf
          refine V.sub (L' := [(0, .ref v0), (1, .int v1), (2, .int v2), (3, .int v3), (4, .int v4), (5, .int v5), (6, .int v6), (8, .int q7.1)]) [1, 2, 3, 4, 5, 6, 7, 0] rfl ?_
          exact bX9_stepsFrom_136 C hk3 hf
        replace hf := ite_t c9 hf
        refine V.aload_n (pc := 123) C dX9_stepsFrom_123 1 rfl ?_
        replace hf := ob_some hf
        obtain ⟨x10, h11, hf⟩ := hf
        refine V.getI (pc := 124) C kX9 (k := 29) (by decide) wd_1079 h11 dX9_stepsFrom_124 ?_
        refine V.sipush (pc := 127) C dX9_stepsFrom_127 (v := (1200 : Int32)) (by decide) ?_
        refine V.icmp_ne (pc := 130) (t := 136) C dX9_stepsFrom_130 (by decide) (fun c12 => ?_) (fun c12 => ?_)
        · replace hf := ite_f c12 hf
          refine V.sub (L' := [(0, .ref v0), (1, .int v1), (2, .int v2), (3, .int v3), (4, .int v4), (5, .int v5), (6, .int v6), (8, .int q7.1)]) [1, 2, 3, 4, 5, 6, 7, 0] rfl ?_
          exact bX9_stepsFrom_136 C hk3 hf
        replace hf := ite_t c12 hf
        refine V.bipush (pc := 133) C dX9_stepsFrom_133 (v := (-3 : Int32)) (by decide) ?_
        obtain ⟨f1, f2⟩ := fin2 hf
        clear hf
        subst f1
        subst f2
        exact V.iret (pc := 135) C rfl dX9_stepsFrom_135
      replace hf := ite_f c6 hf
      refine V.goto (pc := 109) (t := 162) C dX9_stepsFrom_109 (by decide) ?_
      refine V.sub (L' := [(0, .ref v0), (1, .int v1), (2, .int v2), (3, .int v3), (4, .int v4)]) [0, 1, 2, 3, 4] rfl ?_
      exact bX9_stepsFrom_162 C hk3 hf
    replace hf := ite_f c3 hf
    refine V.aload_n (pc := 75) C dX9_stepsFrom_75 0 rfl ?_
    refine V.iload (pc := 76) C dX9_stepsFrom_76 7 rfl ?_
    refine V.iconst (pc := 78) C dX9_stepsFrom_78 (v := (1 : Int32)) (by decide) ?_
    refine V.iadd (pc := 79) C dX9_stepsFrom_79 ?_
    refine V.aload_n (pc := 80) C dX9_stepsFrom_80 0 rfl ?_
    refine V.iload_n (pc := 81) C dX9_stepsFrom_81 1 rfl ?_
    refine V.iload (pc := 82) C dX9_stepsFrom_82 7 rfl ?_
    refine V.iload (pc := 84) C dX9_stepsFrom_84 5 rfl ?_
    refine V.iload (pc := 86) C dX9_stepsFrom_86 6 rfl ?_
    refine V.iload_n (pc := 88) C dX9_stepsFrom_88 2 rfl ?_
    replace hf := ob_some hf
    obtain ⟨q13, h14, hf⟩ := hf
    refine V.callV0i (pc := 89) C hyX9_machineBehind wd_1464 (mX9_machineBehind (r := q13.1) (g' := q13.2) K.2.1 E (kS K) h14) rfl rfl rfl (oX9_machineBehind h14) ⟨Nat.le_of_ble_eq_true rfl, Nat.le_of_ble_eq_true rfl⟩ (Nat.le_of_ble_eq_true rfl) dX9_stepsFrom_89 ⟨Nat.zero_le _, Nat.zero_le _⟩ rfl ?_
    refine V.i2l (pc := 92) C dX9_stepsFrom_92 ?_
    replace hf := ob_some hf
    obtain ⟨q15, h16, hf⟩ := hf
    refine V.callV0v (pc := 93) C hyX9_builds wd_1433 (mX9_builds (r := q15.1) (g' := q15.2) K.2.1 E (kS K) h16) rfl rfl rfl (oX9_builds h16) ⟨Nat.le_of_ble_eq_true rfl, Nat.le_of_ble_eq_true rfl⟩ (Nat.le_of_ble_eq_true rfl) dX9_stepsFrom_93 ⟨Nat.zero_le _, Nat.zero_le _⟩ rfl ?_
    refine V.iinc (pc := 96) (v := (v8 + (1 : Int32))) (L' := [(8, .int (v8 + (1 : Int32))), (0, .ref v0), (1, .int v1), (2, .int v2), (3, .int v3), (4, .int v4), (5, .int v5), (6, .int v6)]) C dX9_stepsFrom_96 7 rfl rfl (by decide) rfl ?_
    refine V.goto (pc := 99) (t := 66) C dX9_stepsFrom_99 (by decide) ?_
    refine V.sub (L' := [(0, .ref v0), (1, .int v1), (2, .int v2), (3, .int v3), (4, .int v4), (5, .int v5), (6, .int v6), (8, .int (v8 + (1 : Int32)))]) [1, 2, 3, 4, 5, 6, 7, 0] rfl ?_
    exact ih _ _ _ _ _ _ _ _ _ hf
def fX9_stepsFrom_3  : Nat → PH → Nat → Int32 → Int32 → Int32 → Int32 → Option (Int32 × PH)
  | 0, _, _, _, _, _, _ => none
  | n + 1, g, v0, v1, v2, v3, v4 =>
  (fX9_pow g v2).bind fun q1 =>
  (if ((2 : Int32) * q1.1) ≤ v4 then (some ((0 : Int32), q1.2)) else
  ((fX9_pow q1.2 v2).bind fun q4 =>
  (okb (decide (¬ q4.1 = 0)) ((fX9_pow q4.2 v2).bind fun q7 =>
  (okb (decide (¬ q7.1 = 0)) ((fX9_partOf q7.2 v0 v1 (0 : Int32)).bind fun q10 =>
  ((fX9_soundBehind q10.2 v0 q10.1 (v4 - v4 / q7.1 * q7.1) v2).bind fun q12 =>
  (if 0 ≤ q12.1 then ((fX9_builds q12.2 v0 (0 : Int32) q12.1.toInt64).bind fun q15 =>
  (fX9_stepsFrom_66 (fX9_stepsFrom_3 n) FUEL q15.2 v0 v1 v2 v3 v4 (v4 / q4.1) (v4 - v4 / q7.1 * q7.1) (0 : Int32))) else
  (fX9_stepsFrom_162 (fX9_stepsFrom_3 n) q12.2 v0 v1 v2 v3 v4)))))))))
set_option maxHeartbeats 4000000 in
set_option maxRecDepth 100000 in
theorem bX9_stepsFrom_3 {K : HK} {E : HE} {r : Int32} {g' : PH}  (C : VC K E 9 cX9_stepsFrom RX9 (some .int))  : ∀ (n : Nat) (g : PH) (v0 : Nat) (v1 : Int32) (v2 : Int32) (v3 : Int32) (v4 : Int32), fX9_stepsFrom_3  n g v0 v1 v2 v3 v4 = some (r, g') → V K E (hRm 8 195 0 0) 9 (hZ K E (some (.int r)) g' 0 0) 0 0 (kS K) g 3 [(0, .ref v0), (1, .int v1), (2, .int v2), (3, .int v3), (4, .int v4)] [] := by
  intro n
  induction n with
  | zero =>
    intro g v0 v1 v2 v3 v4 hf
    rw [fX9_stepsFrom_3] at hf
    cases hf
  | succ n ih =>
    intro g v0 v1 v2 v3 v4 hf
    rw [fX9_stepsFrom_3] at hf
    refine V.iload (pc := 3) C dX9_stepsFrom_3 4 rfl ?_
    refine V.iconst (pc := 5) C dX9_stepsFrom_5 (v := (2 : Int32)) (by decide) ?_
    refine V.iload_n (pc := 6) C dX9_stepsFrom_6 2 rfl ?_
    replace hf := ob_some hf
    obtain ⟨q1, h2, hf⟩ := hf
    refine V.callS0i (pc := 7) C hyX9_pow wd_1449 (mX9_pow (r := q1.1) (g' := q1.2) K.2.1 E (kS K) h2) rfl ⟨Nat.le_of_ble_eq_true rfl, Nat.le_of_ble_eq_true rfl⟩ (Nat.le_of_ble_eq_true rfl) dX9_stepsFrom_7 ⟨Nat.zero_le _, Nat.zero_le _⟩ rfl ?_
    refine V.imul (pc := 10) C dX9_stepsFrom_10 ?_
    refine V.icmp_ge (pc := 11) (t := 168) C dX9_stepsFrom_11 (by decide) (fun c3 => ?_) (fun c3 => ?_)
    · replace hf := ite_t c3 hf
      refine V.iconst (pc := 168) C dX9_stepsFrom_168 (v := (0 : Int32)) (by decide) ?_
      obtain ⟨f1, f2⟩ := fin2 hf
      clear hf
      subst f1
      subst f2
      exact V.iret (pc := 169) C rfl dX9_stepsFrom_169
    replace hf := ite_f c3 hf
    refine V.iload (pc := 14) C dX9_stepsFrom_14 4 rfl ?_
    refine V.iload_n (pc := 16) C dX9_stepsFrom_16 2 rfl ?_
    replace hf := ob_some hf
    obtain ⟨q4, h5, hf⟩ := hf
    refine V.callS0i (pc := 17) C hyX9_pow wd_1449 (mX9_pow (r := q4.1) (g' := q4.2) K.2.1 E (kS K) h5) rfl ⟨Nat.le_of_ble_eq_true rfl, Nat.le_of_ble_eq_true rfl⟩ (Nat.le_of_ble_eq_true rfl) dX9_stepsFrom_17 ⟨Nat.zero_le _, Nat.zero_le _⟩ rfl ?_
    replace hf := okb_some hf
    obtain ⟨h6, hf⟩ := hf
    refine V.idiv (pc := 20) C dX9_stepsFrom_20 (of_decide_eq_true h6) ?_
    refine V.istore (pc := 21) (L' := [(5, .int (v4 / q4.1)), (0, .ref v0), (1, .int v1), (2, .int v2), (3, .int v3), (4, .int v4)]) C dX9_stepsFrom_21 (by decide) rfl ?_
    refine V.iload (pc := 23) C dX9_stepsFrom_23 5 rfl ?_
    refine V.iload_n (pc := 25) C dX9_stepsFrom_25 3 rfl ?_
    replace hf := ob_some hf
    obtain ⟨q7, h8, hf⟩ := hf
    refine V.callS0i (pc := 26) C hyX9_pow wd_1449 (mX9_pow (r := q7.1) (g' := q7.2) K.2.1 E (kS K) h8) rfl ⟨Nat.le_of_ble_eq_true rfl, Nat.le_of_ble_eq_true rfl⟩ (Nat.le_of_ble_eq_true rfl) dX9_stepsFrom_26 ⟨Nat.zero_le _, Nat.zero_le _⟩ rfl ?_
    replace hf := okb_some hf
    obtain ⟨h9, hf⟩ := hf
    refine V.irem (pc := 29) C dX9_stepsFrom_29 (of_decide_eq_true h9) ?_
    refine V.istore (pc := 30) (L' := [(6, .int (v4 - v4 / q7.1 * q7.1)), (5, .int (v4 / q4.1)), (0, .ref v0), (1, .int v1), (2, .int v2), (3, .int v3), (4, .int v4)]) C dX9_stepsFrom_30 (by decide) rfl ?_
    refine V.aload_n (pc := 32) C dX9_stepsFrom_32 2 rfl ?_
    refine V.aload_n (pc := 33) C dX9_stepsFrom_33 2 rfl ?_
    refine V.iload_n (pc := 34) C dX9_stepsFrom_34 3 rfl ?_
    refine V.iconst (pc := 35) C dX9_stepsFrom_35 (v := (0 : Int32)) (by decide) ?_
    replace hf := ob_some hf
    obtain ⟨q10, h11, hf⟩ := hf
    refine V.callV0i (pc := 36) C hyX9_partOf wd_1452 (mX9_partOf (r := q10.1) (g' := q10.2) K.2.1 E (kS K) h11) rfl rfl rfl (oX9_partOf h11) ⟨Nat.le_of_ble_eq_true rfl, Nat.le_of_ble_eq_true rfl⟩ (Nat.le_of_ble_eq_true rfl) dX9_stepsFrom_36 ⟨Nat.zero_le _, Nat.zero_le _⟩ rfl ?_
    refine V.iload (pc := 39) C dX9_stepsFrom_39 0 rfl ?_
    refine V.iload_n (pc := 41) C dX9_stepsFrom_41 4 rfl ?_
    replace hf := ob_some hf
    obtain ⟨q12, h13, hf⟩ := hf
    refine V.callV0i (pc := 42) C hyX9_soundBehind wd_1456 (mX9_soundBehind (r := q12.1) (g' := q12.2) K.2.1 E (kS K) h13) rfl rfl rfl (oX9_soundBehind h13) ⟨Nat.le_of_ble_eq_true rfl, Nat.le_of_ble_eq_true rfl⟩ (Nat.le_of_ble_eq_true rfl) dX9_stepsFrom_42 ⟨Nat.zero_le _, Nat.zero_le _⟩ rfl ?_
    refine V.istore (pc := 45) (L' := [(7, .int q12.1), (6, .int (v4 - v4 / q7.1 * q7.1)), (5, .int (v4 / q4.1)), (0, .ref v0), (1, .int v1), (2, .int v2), (3, .int v3), (4, .int v4)]) C dX9_stepsFrom_45 (by decide) rfl ?_
    refine V.iload (pc := 47) C dX9_stepsFrom_47 0 rfl ?_
    refine V.if_ge (pc := 49) (t := 55) C dX9_stepsFrom_49 (by decide) (fun c14 => ?_) (fun c14 => ?_)
    · replace hf := ite_t c14 hf
      refine V.aload_n (pc := 55) C dX9_stepsFrom_55 3 rfl ?_
      refine V.iconst (pc := 56) C dX9_stepsFrom_56 (v := (0 : Int32)) (by decide) ?_
      refine V.iload (pc := 57) C dX9_stepsFrom_57 0 rfl ?_
      refine V.i2l (pc := 59) C dX9_stepsFrom_59 ?_
      replace hf := ob_some hf
      obtain ⟨q15, h16, hf⟩ := hf
      refine V.callV0v (pc := 60) C hyX9_builds wd_1433 (mX9_builds (r := q15.1) (g' := q15.2) K.2.1 E (kS K) h16) rfl rfl rfl (oX9_builds h16) ⟨Nat.le_of_ble_eq_true rfl, Nat.le_of_ble_eq_true rfl⟩ (Nat.le_of_ble_eq_true rfl) dX9_stepsFrom_60 ⟨Nat.zero_le _, Nat.zero_le _⟩ rfl ?_
      refine V.iconst (pc := 63) C dX9_stepsFrom_63 (v := (0 : Int32)) (by decide) ?_
      refine V.istore (pc := 64) (L' := [(8, .int (0 : Int32)), (7, .int q12.1), (6, .int (v4 - v4 / q7.1 * q7.1)), (5, .int (v4 / q4.1)), (0, .ref v0), (1, .int v1), (2, .int v2), (3, .int v3), (4, .int v4)]) C dX9_stepsFrom_64 (by decide) rfl ?_
      refine V.sub (L' := [(0, .ref v0), (1, .int v1), (2, .int v2), (3, .int v3), (4, .int v4), (5, .int (v4 / q4.1)), (6, .int (v4 - v4 / q7.1 * q7.1)), (8, .int (0 : Int32))]) [4, 5, 6, 7, 8, 3, 2, 0] rfl ?_
      exact bX9_stepsFrom_66 C ih _ _ _ _ _ _ _ _ _ _ hf
    replace hf := ite_f c14 hf
    refine V.goto (pc := 52) (t := 162) C dX9_stepsFrom_52 (by decide) ?_
    refine V.sub (L' := [(0, .ref v0), (1, .int v1), (2, .int v2), (3, .int v3), (4, .int v4)]) [3, 4, 5, 6, 7] rfl ?_
    exact bX9_stepsFrom_162 C ih hf
def fX9_stepsFrom (g : PH) (a0 : Nat) (a1 : Int32) (a2 : Int32) (a3 : Int32) : Option (Int32 × PH) :=
  okb (isO g a0 9) (fX9_stepsFrom_3 FUEL g a0 a1 a2 a3 (0 : Int32))
theorem oX9_stepsFrom {g : PH} {a0 : Nat} {a1 : Int32} {a2 : Int32} {a3 : Int32} {q : (Int32 × PH)} (h : fX9_stepsFrom g a0 a1 a2 a3 = some q) : isO g a0 9 = true := by unfold fX9_stepsFrom at h; exact (okb_some h).1
theorem hyX9_stepsFrom : hMet yX9_stepsFrom RX9 cX9_stepsFrom 9 (some .int) 3 := ⟨wd_1448, wd_1447, ws_101, wd_7, rfl, by decide +kernel, by decide +kernel, by decide +kernel⟩
set_option maxHeartbeats 4000000 in
set_option maxRecDepth 100000 in
theorem mX9_stepsFrom (l : Launch) (E : HE) (sz : Nat) {g g' : PH} {a0 : Nat} {a1 : Int32} {a2 : Int32} {a3 : Int32} {r : Int32} (hf : fX9_stepsFrom g a0 a1 a2 a3 = some (r, g')) : hM l E yX9_stepsFrom cX9_stepsFrom 9 (some .int) 8 195 0 0 sz g [.ref a0, .int a1, .int a2, .int a3] (some (.int r)) g' := by
  refine hM.of (by decide) (Nat.le_of_ble_eq_true rfl) (fun K hl C hin hsz => ?_)
  subst hl
  subst hsz
  have C : VC K E 9 cX9_stepsFrom RX9 (some .int) := C
  unfold fX9_stepsFrom at hf
  replace hf := okb_some hf
  obtain ⟨ho, hf⟩ := hf
  refine V.start (L' := [(0, .ref a0), (1, .int a1), (2, .int a2), (3, .int a3)]) rfl ?_
  refine V.iconst (pc := 0) C dX9_stepsFrom_0 (v := (0 : Int32)) (by decide) ?_
  refine V.istore (pc := 1) (L' := [(4, .int (0 : Int32)), (0, .ref a0), (1, .int a1), (2, .int a2), (3, .int a3)]) C dX9_stepsFrom_1 (by decide) rfl ?_
  refine V.sub (L' := [(0, .ref a0), (1, .int a1), (2, .int a2), (3, .int a3), (4, .int (0 : Int32))]) [1, 2, 3, 4, 0] rfl ?_
  exact bX9_stepsFrom_3 C  _ _ _ _ _ _ _ hf
theorem dX9_searches_0 : decode cX9_searches 0 = .ok (.aload_n 0, 1) := by decide +kernel
theorem dX9_searches_1 : decode cX9_searches 1 = .ok (.iload_n 1, 1) := by decide +kernel
theorem dX9_searches_2 : decode cX9_searches 2 = .ok (.invokevirtual 335, 3) := by decide +kernel
theorem dX9_searches_5 : decode cX9_searches 5 = .ok (.iconst 1, 1) := by decide +kernel
theorem dX9_searches_6 : decode cX9_searches 6 = .ok (.istore_n 2, 1) := by decide +kernel
theorem dX9_searches_7 : decode cX9_searches 7 = .ok (.iload_n 2, 1) := by decide +kernel
theorem dX9_searches_8 : decode cX9_searches 8 = .ok (.bipush 9, 2) := by decide +kernel
theorem dX9_searches_10 : decode cX9_searches 10 = .ok (.if_icmp .gt 89, 3) := by decide +kernel
theorem dX9_searches_13 : decode cX9_searches 13 = .ok (.iconst 1, 1) := by decide +kernel
theorem dX9_searches_14 : decode cX9_searches 14 = .ok (.istore_n 3, 1) := by decide +kernel
theorem dX9_searches_15 : decode cX9_searches 15 = .ok (.iload_n 3, 1) := by decide +kernel
theorem dX9_searches_16 : decode cX9_searches 16 = .ok (.iconst 3, 1) := by decide +kernel
theorem dX9_searches_17 : decode cX9_searches 17 = .ok (.if_icmp .gt 76, 3) := by decide +kernel
theorem dX9_searches_20 : decode cX9_searches 20 = .ok (.iload_n 3, 1) := by decide +kernel
theorem dX9_searches_21 : decode cX9_searches 21 = .ok (.iload_n 2, 1) := by decide +kernel
theorem dX9_searches_22 : decode cX9_searches 22 = .ok (.if_icmp .gt 71, 3) := by decide +kernel
theorem dX9_searches_25 : decode cX9_searches 25 = .ok (.iconst 0, 1) := by decide +kernel
theorem dX9_searches_26 : decode cX9_searches 26 = .ok (.istore 4, 2) := by decide +kernel
theorem dX9_searches_28 : decode cX9_searches 28 = .ok (.iload 4, 2) := by decide +kernel
theorem dX9_searches_30 : decode cX9_searches 30 = .ok (.aload_n 0, 1) := by decide +kernel
theorem dX9_searches_31 : decode cX9_searches 31 = .ok (.getfield 292, 3) := by decide +kernel
theorem dX9_searches_34 : decode cX9_searches 34 = .ok (.if_icmp .ge 53, 3) := by decide +kernel
theorem dX9_searches_37 : decode cX9_searches 37 = .ok (.aload_n 0, 1) := by decide +kernel
theorem dX9_searches_38 : decode cX9_searches 38 = .ok (.getfield 48, 3) := by decide +kernel
theorem dX9_searches_41 : decode cX9_searches 41 = .ok (.iload 4, 2) := by decide +kernel
theorem dX9_searches_43 : decode cX9_searches 43 = .ok (.iaload, 1) := by decide +kernel
theorem dX9_searches_44 : decode cX9_searches 44 = .ok (.iload_n 2, 1) := by decide +kernel
theorem dX9_searches_45 : decode cX9_searches 45 = .ok (.iload_n 3, 1) := by decide +kernel
theorem dX9_searches_46 : decode cX9_searches 46 = .ok (.isub, 1) := by decide +kernel
theorem dX9_searches_47 : decode cX9_searches 47 = .ok (.if_icmp .eq 6, 3) := by decide +kernel
theorem dX9_searches_50 : decode cX9_searches 50 = .ok (.goto 31, 3) := by decide +kernel
theorem dX9_searches_53 : decode cX9_searches 53 = .ok (.aload_n 0, 1) := by decide +kernel
theorem dX9_searches_54 : decode cX9_searches 54 = .ok (.iload 4, 2) := by decide +kernel
theorem dX9_searches_56 : decode cX9_searches 56 = .ok (.iload_n 3, 1) := by decide +kernel
theorem dX9_searches_57 : decode cX9_searches 57 = .ok (.iload_n 2, 1) := by decide +kernel
theorem dX9_searches_58 : decode cX9_searches 58 = .ok (.invokevirtual 338, 3) := by decide +kernel
theorem dX9_searches_61 : decode cX9_searches 61 = .ok (.istore 5, 2) := by decide +kernel
theorem dX9_searches_63 : decode cX9_searches 63 = .ok (.iload 5, 2) := by decide +kernel
theorem dX9_searches_65 : decode cX9_searches 65 = .ok (.ifCond .eq 16, 3) := by decide +kernel
theorem dX9_searches_68 : decode cX9_searches 68 = .ok (.iload 5, 2) := by decide +kernel
theorem dX9_searches_70 : decode cX9_searches 70 = .ok (.iconst 1, 1) := by decide +kernel
theorem dX9_searches_71 : decode cX9_searches 71 = .ok (.if_icmp .ne 7, 3) := by decide +kernel
theorem dX9_searches_74 : decode cX9_searches 74 = .ok (.iload_n 2, 1) := by decide +kernel
theorem dX9_searches_75 : decode cX9_searches 75 = .ok (.goto 5, 3) := by decide +kernel
theorem dX9_searches_78 : decode cX9_searches 78 = .ok (.bipush (-3), 2) := by decide +kernel
theorem dX9_searches_80 : decode cX9_searches 80 = .ok (.ireturn, 1) := by decide +kernel
theorem dX9_searches_81 : decode cX9_searches 81 = .ok (.iinc 4 1, 3) := by decide +kernel
theorem dX9_searches_84 : decode cX9_searches 84 = .ok (.goto (-56), 3) := by decide +kernel
theorem dX9_searches_87 : decode cX9_searches 87 = .ok (.iinc 3 1, 3) := by decide +kernel
theorem dX9_searches_90 : decode cX9_searches 90 = .ok (.goto (-75), 3) := by decide +kernel
theorem dX9_searches_93 : decode cX9_searches 93 = .ok (.iinc 2 1, 3) := by decide +kernel
theorem dX9_searches_96 : decode cX9_searches 96 = .ok (.goto (-89), 3) := by decide +kernel
theorem dX9_searches_99 : decode cX9_searches 99 = .ok (.bipush (-2), 2) := by decide +kernel
theorem dX9_searches_101 : decode cX9_searches 101 = .ok (.ireturn, 1) := by decide +kernel
def fX9_searches_81 (k7 : PH → Nat → Int32 → Option (Int32 × PH)) (k15 : PH → Nat → Int32 → Int32 → Option (Int32 × PH)) (k28 : PH → Nat → Int32 → Int32 → Int32 → Option (Int32 × PH)) (g : PH) (v0 : Nat) (v2 : Int32) (v3 : Int32) (v4 : Int32) : Option (Int32 × PH) :=
  k28 g v0 v2 v3 (v4 + (1 : Int32))
set_option maxHeartbeats 4000000 in
set_option maxRecDepth 100000 in
theorem bX9_searches_81 {K : HK} {E : HE} {r : Int32} {g' : PH} {k7 : PH → Nat → Int32 → Option (Int32 × PH)} {k15 : PH → Nat → Int32 → Int32 → Option (Int32 × PH)} {k28 : PH → Nat → Int32 → Int32 → Int32 → Option (Int32 × PH)} (C : VC K E 6 cX9_searches RX9 (some .int)) (hk7 : ∀ (g : PH) (v0 : Nat) (v2 : Int32), k7 g v0 v2 = some (r, g') → V K E (hRm 9 223 0 0) 6 (hZ K E (some (.int r)) g' 0 0) 0 0 (kS K) g 7 [(0, .ref v0), (2, .int v2)] []) (hk15 : ∀ (g : PH) (v0 : Nat) (v2 : Int32) (v3 : Int32), k15 g v0 v2 v3 = some (r, g') → V K E (hRm 9 223 0 0) 6 (hZ K E (some (.int r)) g' 0 0) 0 0 (kS K) g 15 [(0, .ref v0), (2, .int v2), (3, .int v3)] []) (hk28 : ∀ (g : PH) (v0 : Nat) (v2 : Int32) (v3 : Int32) (v4 : Int32), k28 g v0 v2 v3 v4 = some (r, g') → V K E (hRm 9 223 0 0) 6 (hZ K E (some (.int r)) g' 0 0) 0 0 (kS K) g 28 [(0, .ref v0), (2, .int v2), (3, .int v3), (4, .int v4)] []) {g : PH} {v0 : Nat} {v2 : Int32} {v3 : Int32} {v4 : Int32} (hf : fX9_searches_81 k7 k15 k28 g v0 v2 v3 v4 = some (r, g')) : V K E (hRm 9 223 0 0) 6 (hZ K E (some (.int r)) g' 0 0) 0 0 (kS K) g 81 [(0, .ref v0), (2, .int v2), (3, .int v3), (4, .int v4)] [] := by
  unfold fX9_searches_81 at hf
  refine V.iinc (pc := 81) (v := (v4 + (1 : Int32))) (L' := [(4, .int (v4 + (1 : Int32))), (0, .ref v0), (2, .int v2), (3, .int v3)]) C dX9_searches_81 3 rfl rfl (by decide) rfl ?_
  refine V.goto (pc := 84) (t := 28) C dX9_searches_84 (by decide) ?_
  refine V.sub (L' := [(0, .ref v0), (2, .int v2), (3, .int v3), (4, .int (v4 + (1 : Int32)))]) [1, 2, 3, 0] rfl ?_
  exact hk28 _ _ _ _ _ hf
def fX9_searches_28 (k7 : PH → Nat → Int32 → Option (Int32 × PH)) (k15 : PH → Nat → Int32 → Int32 → Option (Int32 × PH)) : Nat → PH → Nat → Int32 → Int32 → Int32 → Option (Int32 × PH)
  | 0, _, _, _, _, _ => none
  | n + 1, g, v0, v2, v3, v4 =>
  (getI g v0 9 29).bind fun x1 =>
  (if x1 ≤ v4 then (k15 g v0 v2 (v3 + (1 : Int32))) else
  ((getR g v0 9 26).bind fun p4 =>
  ((ldI g p4 0 v4).bind fun x6 =>
  (if x6 = (v2 - v3) then ((fX9_stepsFrom g v0 v4 v3 v2).bind fun q9 =>
  (if q9.1 = 0 then (fX9_searches_81 (k7) (k15) (fX9_searches_28 k7 k15 n) q9.2 v0 v2 v3 v4) else
  (if q9.1 = (1 : Int32) then (some (v2, q9.2)) else
  (some ((-3 : Int32), q9.2))))) else
  (fX9_searches_81 (k7) (k15) (fX9_searches_28 k7 k15 n) g v0 v2 v3 v4)))))
set_option maxHeartbeats 4000000 in
set_option maxRecDepth 100000 in
theorem bX9_searches_28 {K : HK} {E : HE} {r : Int32} {g' : PH} {k7 : PH → Nat → Int32 → Option (Int32 × PH)} {k15 : PH → Nat → Int32 → Int32 → Option (Int32 × PH)} (C : VC K E 6 cX9_searches RX9 (some .int)) (hk7 : ∀ (g : PH) (v0 : Nat) (v2 : Int32), k7 g v0 v2 = some (r, g') → V K E (hRm 9 223 0 0) 6 (hZ K E (some (.int r)) g' 0 0) 0 0 (kS K) g 7 [(0, .ref v0), (2, .int v2)] []) (hk15 : ∀ (g : PH) (v0 : Nat) (v2 : Int32) (v3 : Int32), k15 g v0 v2 v3 = some (r, g') → V K E (hRm 9 223 0 0) 6 (hZ K E (some (.int r)) g' 0 0) 0 0 (kS K) g 15 [(0, .ref v0), (2, .int v2), (3, .int v3)] []) : ∀ (n : Nat) (g : PH) (v0 : Nat) (v2 : Int32) (v3 : Int32) (v4 : Int32), fX9_searches_28 k7 k15 n g v0 v2 v3 v4 = some (r, g') → V K E (hRm 9 223 0 0) 6 (hZ K E (some (.int r)) g' 0 0) 0 0 (kS K) g 28 [(0, .ref v0), (2, .int v2), (3, .int v3), (4, .int v4)] [] := by
  intro n
  induction n with
  | zero =>
    intro g v0 v2 v3 v4 hf
    rw [fX9_searches_28] at hf
    cases hf
  | succ n ih =>
    intro g v0 v2 v3 v4 hf
    rw [fX9_searches_28] at hf
    refine V.iload (pc := 28) C dX9_searches_28 3 rfl ?_
    refine V.aload_n (pc := 30) C dX9_searches_30 0 rfl ?_
    replace hf := ob_some hf
    obtain ⟨x1, h2, hf⟩ := hf
    refine V.getI (pc := 31) C kX9 (k := 29) (by decide) wd_1079 h2 dX9_searches_31 ?_
    refine V.icmp_ge (pc := 34) (t := 87) C dX9_searches_34 (by decide) (fun c3 => ?_) (fun c3 => ?_)
    · replace hf := ite_t c3 hf
      refine V.iinc (pc := 87) (v := (v3 + (1 : Int32))) (L' := [(3, .int (v3 + (1 : Int32))), (0, .ref v0), (2, .int v2), (4, .int v4)]) C dX9_searches_87 2 rfl rfl (by decide) rfl ?_
      refine V.goto (pc := 90) (t := 15) C dX9_searches_90 (by decide) ?_
      refine V.sub (L' := [(0, .ref v0), (2, .int v2), (3, .int (v3 + (1 : Int32)))]) [1, 2, 0] rfl ?_
      exact hk15 _ _ _ _ hf
    replace hf := ite_f c3 hf
    refine V.aload_n (pc := 37) C dX9_searches_37 0 rfl ?_
    replace hf := ob_some hf
    obtain ⟨p4, h5, hf⟩ := hf
    refine V.getR (pc := 38) C kX9 (k := 26) (by decide) wd_1076 h5 dX9_searches_38 ?_
    refine V.iload (pc := 41) C dX9_searches_41 3 rfl ?_
    replace hf := ob_some hf
    obtain ⟨x6, h7, hf⟩ := hf
    refine V.iald (pc := 43) C h7 dX9_searches_43 ?_
    refine V.iload_n (pc := 44) C dX9_searches_44 1 rfl ?_
    refine V.iload_n (pc := 45) C dX9_searches_45 2 rfl ?_
    refine V.isub (pc := 46) C dX9_searches_46 ?_
    refine V.icmp_eq (pc := 47) (t := 53) C dX9_searches_47 (by decide) (fun c8 => ?_) (fun c8 => ?_)
    · replace hf := ite_t c8 hf
      refine V.aload_n (pc := 53) C dX9_searches_53 0 rfl ?_
      refine V.iload (pc := 54) C dX9_searches_54 3 rfl ?_
      refine V.iload_n (pc := 56) C dX9_searches_56 2 rfl ?_
      refine V.iload_n (pc := 57) C dX9_searches_57 1 rfl ?_
      replace hf := ob_some hf
      obtain ⟨q9, h10, hf⟩ := hf
      refine V.callV0i (pc := 58) C hyX9_stepsFrom wd_1445 (mX9_stepsFrom (r := q9.1) (g' := q9.2) K.2.1 E (kS K) h10) rfl rfl rfl (oX9_stepsFrom h10) ⟨Nat.le_of_ble_eq_true rfl, Nat.le_of_ble_eq_true rfl⟩ (Nat.le_of_ble_eq_true rfl) dX9_searches_58 ⟨Nat.zero_le _, Nat.zero_le _⟩ rfl ?_
      refine V.istore (pc := 61) (L' := [(5, .int q9.1), (0, .ref v0), (2, .int v2), (3, .int v3), (4, .int v4)]) C dX9_searches_61 (by decide) rfl ?_
      refine V.iload (pc := 63) C dX9_searches_63 0 rfl ?_
      refine V.if_eq (pc := 65) (t := 81) C dX9_searches_65 (by decide) (fun c11 => ?_) (fun c11 => ?_)
      · replace hf := ite_t c11 hf
        refine V.sub (L' := [(0, .ref v0), (2, .int v2), (3, .int v3), (4, .int v4)]) [1, 2, 3, 4] rfl ?_
        exact bX9_searches_81 C hk7 hk15 ih hf
      replace hf := ite_f c11 hf
      refine V.iload (pc := 68) C dX9_searches_68 0 rfl ?_
      refine V.iconst (pc := 70) C dX9_searches_70 (v := (1 : Int32)) (by decide) ?_
      refine V.icmp_ne (pc := 71) (t := 78) C dX9_searches_71 (by decide) (fun c12 => ?_) (fun c12 => ?_)
      · replace hf := ite_f c12 hf
        refine V.bipush (pc := 78) C dX9_searches_78 (v := (-3 : Int32)) (by decide) ?_
        obtain ⟨f1, f2⟩ := fin2 hf
        clear hf
        subst f1
        subst f2
        exact V.iret (pc := 80) C rfl dX9_searches_80
      replace hf := ite_t c12 hf
      refine V.iload_n (pc := 74) C dX9_searches_74 2 rfl ?_
      refine V.goto (pc := 75) (t := 80) C dX9_searches_75 (by decide) ?_
      obtain ⟨f1, f2⟩ := fin2 hf
      clear hf
      subst f1
      subst f2
      exact V.iret (pc := 80) C rfl dX9_searches_80
    replace hf := ite_f c8 hf
    refine V.goto (pc := 50) (t := 81) C dX9_searches_50 (by decide) ?_
    refine V.sub (L' := [(0, .ref v0), (2, .int v2), (3, .int v3), (4, .int v4)]) [0, 1, 2, 3] rfl ?_
    exact bX9_searches_81 C hk7 hk15 ih hf
def fX9_searches_93 (k7 : PH → Nat → Int32 → Option (Int32 × PH)) (g : PH) (v0 : Nat) (v2 : Int32) : Option (Int32 × PH) :=
  k7 g v0 (v2 + (1 : Int32))
set_option maxHeartbeats 4000000 in
set_option maxRecDepth 100000 in
theorem bX9_searches_93 {K : HK} {E : HE} {r : Int32} {g' : PH} {k7 : PH → Nat → Int32 → Option (Int32 × PH)} (C : VC K E 6 cX9_searches RX9 (some .int)) (hk7 : ∀ (g : PH) (v0 : Nat) (v2 : Int32), k7 g v0 v2 = some (r, g') → V K E (hRm 9 223 0 0) 6 (hZ K E (some (.int r)) g' 0 0) 0 0 (kS K) g 7 [(0, .ref v0), (2, .int v2)] []) {g : PH} {v0 : Nat} {v2 : Int32} (hf : fX9_searches_93 k7 g v0 v2 = some (r, g')) : V K E (hRm 9 223 0 0) 6 (hZ K E (some (.int r)) g' 0 0) 0 0 (kS K) g 93 [(0, .ref v0), (2, .int v2)] [] := by
  unfold fX9_searches_93 at hf
  refine V.iinc (pc := 93) (v := (v2 + (1 : Int32))) (L' := [(2, .int (v2 + (1 : Int32))), (0, .ref v0)]) C dX9_searches_93 1 rfl rfl (by decide) rfl ?_
  refine V.goto (pc := 96) (t := 7) C dX9_searches_96 (by decide) ?_
  refine V.sub (L' := [(0, .ref v0), (2, .int (v2 + (1 : Int32)))]) [1, 0] rfl ?_
  exact hk7 _ _ _ hf
def fX9_searches_15 (k7 : PH → Nat → Int32 → Option (Int32 × PH)) : Nat → PH → Nat → Int32 → Int32 → Option (Int32 × PH)
  | 0, _, _, _, _ => none
  | n + 1, g, v0, v2, v3 =>
  if (3 : Int32) < v3 then (fX9_searches_93 (k7) g v0 v2) else
  (if v2 < v3 then (fX9_searches_93 (k7) g v0 v2) else
  (fX9_searches_28 (k7) (fX9_searches_15 k7 n) FUEL g v0 v2 v3 (0 : Int32)))
set_option maxHeartbeats 4000000 in
set_option maxRecDepth 100000 in
theorem bX9_searches_15 {K : HK} {E : HE} {r : Int32} {g' : PH} {k7 : PH → Nat → Int32 → Option (Int32 × PH)} (C : VC K E 6 cX9_searches RX9 (some .int)) (hk7 : ∀ (g : PH) (v0 : Nat) (v2 : Int32), k7 g v0 v2 = some (r, g') → V K E (hRm 9 223 0 0) 6 (hZ K E (some (.int r)) g' 0 0) 0 0 (kS K) g 7 [(0, .ref v0), (2, .int v2)] []) : ∀ (n : Nat) (g : PH) (v0 : Nat) (v2 : Int32) (v3 : Int32), fX9_searches_15 k7 n g v0 v2 v3 = some (r, g') → V K E (hRm 9 223 0 0) 6 (hZ K E (some (.int r)) g' 0 0) 0 0 (kS K) g 15 [(0, .ref v0), (2, .int v2), (3, .int v3)] [] := by
  intro n
  induction n with
  | zero =>
    intro g v0 v2 v3 hf
    rw [fX9_searches_15] at hf
    cases hf
  | succ n ih =>
    intro g v0 v2 v3 hf
    rw [fX9_searches_15] at hf
    refine V.iload_n (pc := 15) C dX9_searches_15 2 rfl ?_
    refine V.iconst (pc := 16) C dX9_searches_16 (v := (3 : Int32)) (by decide) ?_
    refine V.icmp_gt (pc := 17) (t := 93) C dX9_searches_17 (by decide) (fun c1 => ?_) (fun c1 => ?_)
    · replace hf := ite_t c1 hf
      refine V.sub (L' := [(0, .ref v0), (2, .int v2)]) [0, 1] rfl ?_
      exact bX9_searches_93 C hk7 hf
    replace hf := ite_f c1 hf
    refine V.iload_n (pc := 20) C dX9_searches_20 2 rfl ?_
    refine V.iload_n (pc := 21) C dX9_searches_21 1 rfl ?_
    refine V.icmp_gt (pc := 22) (t := 93) C dX9_searches_22 (by decide) (fun c2 => ?_) (fun c2 => ?_)
    · replace hf := ite_t c2 hf
      refine V.sub (L' := [(0, .ref v0), (2, .int v2)]) [0, 1] rfl ?_
      exact bX9_searches_93 C hk7 hf
    replace hf := ite_f c2 hf
    refine V.iconst (pc := 25) C dX9_searches_25 (v := (0 : Int32)) (by decide) ?_
    refine V.istore (pc := 26) (L' := [(4, .int (0 : Int32)), (0, .ref v0), (2, .int v2), (3, .int v3)]) C dX9_searches_26 (by decide) rfl ?_
    refine V.sub (L' := [(0, .ref v0), (2, .int v2), (3, .int v3), (4, .int (0 : Int32))]) [1, 2, 3, 0] rfl ?_
    exact bX9_searches_28 C hk7 ih _ _ _ _ _ _ hf
def fX9_searches_7  : Nat → PH → Nat → Int32 → Option (Int32 × PH)
  | 0, _, _, _ => none
  | n + 1, g, v0, v2 =>
  if (9 : Int32) < v2 then (some ((-2 : Int32), g)) else
  (fX9_searches_15 (fX9_searches_7 n) FUEL g v0 v2 (1 : Int32))
set_option maxHeartbeats 4000000 in
set_option maxRecDepth 100000 in
theorem bX9_searches_7 {K : HK} {E : HE} {r : Int32} {g' : PH}  (C : VC K E 6 cX9_searches RX9 (some .int))  : ∀ (n : Nat) (g : PH) (v0 : Nat) (v2 : Int32), fX9_searches_7  n g v0 v2 = some (r, g') → V K E (hRm 9 223 0 0) 6 (hZ K E (some (.int r)) g' 0 0) 0 0 (kS K) g 7 [(0, .ref v0), (2, .int v2)] [] := by
  intro n
  induction n with
  | zero =>
    intro g v0 v2 hf
    rw [fX9_searches_7] at hf
    cases hf
  | succ n ih =>
    intro g v0 v2 hf
    rw [fX9_searches_7] at hf
    refine V.iload_n (pc := 7) C dX9_searches_7 1 rfl ?_
    refine V.bipush (pc := 8) C dX9_searches_8 (v := (9 : Int32)) (by decide) ?_
    refine V.icmp_gt (pc := 10) (t := 99) C dX9_searches_10 (by decide) (fun c1 => ?_) (fun c1 => ?_)
    · replace hf := ite_t c1 hf
      refine V.bipush (pc := 99) C dX9_searches_99 (v := (-2 : Int32)) (by decide) ?_
      obtain ⟨f1, f2⟩ := fin2 hf
      clear hf
      subst f1
      subst f2
      exact V.iret (pc := 101) C rfl dX9_searches_101
    replace hf := ite_f c1 hf
    refine V.iconst (pc := 13) C dX9_searches_13 (v := (1 : Int32)) (by decide) ?_
    refine V.istore_n (pc := 14) (L' := [(3, .int (1 : Int32)), (0, .ref v0), (2, .int v2)]) C dX9_searches_14 (by decide) rfl ?_
    refine V.sub (L' := [(0, .ref v0), (2, .int v2), (3, .int (1 : Int32))]) [1, 2, 0] rfl ?_
    exact bX9_searches_15 C ih _ _ _ _ _ hf
def fX9_searches (g : PH) (a0 : Nat) (a1 : Int32) : Option (Int32 × PH) :=
  okb (isO g a0 9) ((fX9_laysMachines g a0 a1).bind fun q1 =>
  (fX9_searches_7 FUEL q1.2 a0 (1 : Int32)))
theorem oX9_searches {g : PH} {a0 : Nat} {a1 : Int32} {q : (Int32 × PH)} (h : fX9_searches g a0 a1 = some q) : isO g a0 9 = true := by unfold fX9_searches at h; exact (okb_some h).1
theorem hyX9_searches : hMet yX9_searches RX9 cX9_searches 6 (some .int) 1 := ⟨wd_1424, wd_1423, ws_96, wd_7, rfl, by decide +kernel, by decide +kernel, by decide +kernel⟩
set_option maxHeartbeats 4000000 in
set_option maxRecDepth 100000 in
theorem mX9_searches (l : Launch) (E : HE) (sz : Nat) {g g' : PH} {a0 : Nat} {a1 : Int32} {r : Int32} (hf : fX9_searches g a0 a1 = some (r, g')) : hM l E yX9_searches cX9_searches 6 (some .int) 9 223 0 0 sz g [.ref a0, .int a1] (some (.int r)) g' := by
  refine hM.of (by decide) (Nat.le_of_ble_eq_true rfl) (fun K hl C hin hsz => ?_)
  subst hl
  subst hsz
  have C : VC K E 6 cX9_searches RX9 (some .int) := C
  unfold fX9_searches at hf
  replace hf := okb_some hf
  obtain ⟨ho, hf⟩ := hf
  refine V.start (L' := [(0, .ref a0), (1, .int a1)]) rfl ?_
  refine V.aload_n (pc := 0) C dX9_searches_0 0 rfl ?_
  refine V.iload_n (pc := 1) C dX9_searches_1 1 rfl ?_
  replace hf := ob_some hf
  obtain ⟨q1, h2, hf⟩ := hf
  refine V.callV0v (pc := 2) C hyX9_laysMachines wd_1425 (mX9_laysMachines (r := q1.1) (g' := q1.2) K.2.1 E (kS K) h2) rfl rfl rfl (oX9_laysMachines h2) ⟨Nat.le_of_ble_eq_true rfl, Nat.le_of_ble_eq_true rfl⟩ (Nat.le_of_ble_eq_true rfl) dX9_searches_2 ⟨Nat.zero_le _, Nat.zero_le _⟩ rfl ?_
  refine V.iconst (pc := 5) C dX9_searches_5 (v := (1 : Int32)) (by decide) ?_
  refine V.istore_n (pc := 6) (L' := [(2, .int (1 : Int32)), (0, .ref a0), (1, .int a1)]) C dX9_searches_6 (by decide) rfl ?_
  refine V.sub (L' := [(0, .ref a0), (2, .int (1 : Int32))]) [1, 0] rfl ?_
  exact bX9_searches_7 C  _ _ _ _ hf
theorem dX9_areKinds_0 : decode cX9_areKinds 0 = .ok (.iload_n 1, 1) := by decide +kernel
theorem dX9_areKinds_1 : decode cX9_areKinds 1 = .ok (.i2l, 1) := by decide +kernel
theorem dX9_areKinds_2 : decode cX9_areKinds 2 = .ok (.lconst 0, 1) := by decide +kernel
theorem dX9_areKinds_3 : decode cX9_areKinds 3 = .ok (.iconst 1, 1) := by decide +kernel
theorem dX9_areKinds_4 : decode cX9_areKinds 4 = .ok (.aload_n 0, 1) := by decide +kernel
theorem dX9_areKinds_5 : decode cX9_areKinds 5 = .ok (.getfield 119, 3) := by decide +kernel
theorem dX9_areKinds_8 : decode cX9_areKinds 8 = .ok (.ishl, 1) := by decide +kernel
theorem dX9_areKinds_9 : decode cX9_areKinds 9 = .ok (.iconst 1, 1) := by decide +kernel
theorem dX9_areKinds_10 : decode cX9_areKinds 10 = .ok (.isub, 1) := by decide +kernel
theorem dX9_areKinds_11 : decode cX9_areKinds 11 = .ok (.i2l, 1) := by decide +kernel
theorem dX9_areKinds_12 : decode cX9_areKinds 12 = .ok (.invokestatic 86, 3) := by decide +kernel
theorem dX9_areKinds_15 : decode cX9_areKinds 15 = .ok (.ireturn, 1) := by decide +kernel
def fX9_areKinds (g : PH) (a0 : Nat) (a1 : Int32) : Option (Int32 × PH) :=
  okb (isO g a0 9) ((getI g a0 9 7).bind fun x1 =>
  ((fX9_isIn g a1.toInt64 (0 : Int64) (((1 : Int32) <<< (x1 &&& 31)) - (1 : Int32)).toInt64).bind fun q3 =>
  (okb (vp_nar .boolean q3.1 == q3.1) (some (q3.1, q3.2)))))
theorem oX9_areKinds {g : PH} {a0 : Nat} {a1 : Int32} {q : (Int32 × PH)} (h : fX9_areKinds g a0 a1 = some q) : isO g a0 9 = true := by unfold fX9_areKinds at h; exact (okb_some h).1
theorem hyX9_areKinds : hMet yX9_areKinds RX9 cX9_areKinds 2 (some .boolean) 1 := ⟨wd_1416, wd_1415, ws_94, wd_7, rfl, by decide +kernel, by decide +kernel, by decide +kernel⟩
set_option maxHeartbeats 4000000 in
set_option maxRecDepth 100000 in
theorem mX9_areKinds (l : Launch) (E : HE) (sz : Nat) {g g' : PH} {a0 : Nat} {a1 : Int32} {r : Int32} (hf : fX9_areKinds g a0 a1 = some (r, g')) : hM l E yX9_areKinds cX9_areKinds 2 (some .boolean) 1 25 0 0 sz g [.ref a0, .int a1] (some (.int r)) g' := by
  refine hM.of (by decide) (Nat.le_of_ble_eq_true rfl) (fun K hl C hin hsz => ?_)
  subst hl
  subst hsz
  have C : VC K E 2 cX9_areKinds RX9 (some .boolean) := C
  unfold fX9_areKinds at hf
  replace hf := okb_some hf
  obtain ⟨ho, hf⟩ := hf
  refine V.start (L' := [(0, .ref a0), (1, .int a1)]) rfl ?_
  refine V.iload_n (pc := 0) C dX9_areKinds_0 1 rfl ?_
  refine V.i2l (pc := 1) C dX9_areKinds_1 ?_
  refine V.lconst (pc := 2) C dX9_areKinds_2 (v := (0 : Int64)) (by decide) ?_
  refine V.iconst (pc := 3) C dX9_areKinds_3 (v := (1 : Int32)) (by decide) ?_
  refine V.aload_n (pc := 4) C dX9_areKinds_4 0 rfl ?_
  replace hf := ob_some hf
  obtain ⟨x1, h2, hf⟩ := hf
  refine V.getI (pc := 5) C kX9 (k := 7) (by decide) wd_1057 h2 dX9_areKinds_5 ?_
  refine V.ishl (pc := 8) C dX9_areKinds_8 ?_
  refine V.iconst (pc := 9) C dX9_areKinds_9 (v := (1 : Int32)) (by decide) ?_
  refine V.isub (pc := 10) C dX9_areKinds_10 ?_
  refine V.i2l (pc := 11) C dX9_areKinds_11 ?_
  replace hf := ob_some hf
  obtain ⟨q3, h4, hf⟩ := hf
  refine V.callS0i (pc := 12) C hyX9_isIn wd_1182 (mX9_isIn (r := q3.1) (g' := q3.2) K.2.1 E (kS K) h4) rfl ⟨Nat.le_of_ble_eq_true rfl, Nat.le_of_ble_eq_true rfl⟩ (Nat.le_of_ble_eq_true rfl) dX9_areKinds_12 ⟨Nat.zero_le _, Nat.zero_le _⟩ rfl ?_
  replace hf := okb_some hf
  obtain ⟨h5, hf⟩ := hf
  obtain ⟨f1, f2⟩ := fin2 hf
  clear hf
  subst f1
  subst f2
  exact V.zret (pc := 15) C (nar_z (eq_of_beq h5)) rfl dX9_areKinds_15
