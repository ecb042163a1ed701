theorem dX3_visit_0 : decode cX3_visit 0 = .ok (.iload 4, 2) := by decide +kernel
theorem dX3_visit_2 : decode cX3_visit 2 = .ok (.istore 5, 2) := by decide +kernel
theorem dX3_visit_4 : decode cX3_visit 4 = .ok (.iconst 0, 1) := by decide +kernel
theorem dX3_visit_5 : decode cX3_visit 5 = .ok (.istore 6, 2) := by decide +kernel
theorem dX3_visit_7 : decode cX3_visit 7 = .ok (.iload 6, 2) := by decide +kernel
theorem dX3_visit_9 : decode cX3_visit 9 = .ok (.aload_n 1, 1) := by decide +kernel
theorem dX3_visit_10 : decode cX3_visit 10 = .ok (.iload_n 2, 1) := by decide +kernel
theorem dX3_visit_11 : decode cX3_visit 11 = .ok (.invokevirtual 116, 3) := by decide +kernel
theorem dX3_visit_14 : decode cX3_visit 14 = .ok (.if_icmp .ge 65, 3) := by decide +kernel
theorem dX3_visit_17 : decode cX3_visit 17 = .ok (.aload_n 1, 1) := by decide +kernel
theorem dX3_visit_18 : decode cX3_visit 18 = .ok (.iload_n 2, 1) := by decide +kernel
theorem dX3_visit_19 : decode cX3_visit 19 = .ok (.iload 6, 2) := by decide +kernel
theorem dX3_visit_21 : decode cX3_visit 21 = .ok (.invokevirtual 119, 3) := by decide +kernel
theorem dX3_visit_24 : decode cX3_visit 24 = .ok (.istore 7, 2) := by decide +kernel
theorem dX3_visit_26 : decode cX3_visit 26 = .ok (.iload 7, 2) := by decide +kernel
theorem dX3_visit_28 : decode cX3_visit 28 = .ok (.iconst 2, 1) := by decide +kernel
theorem dX3_visit_29 : decode cX3_visit 29 = .ok (.if_icmp .ge 7, 3) := by decide +kernel
theorem dX3_visit_32 : decode cX3_visit 32 = .ok (.iconst 0, 1) := by decide +kernel
theorem dX3_visit_33 : decode cX3_visit 33 = .ok (.goto 7, 3) := by decide +kernel
theorem dX3_visit_36 : decode cX3_visit 36 = .ok (.iload 7, 2) := by decide +kernel
theorem dX3_visit_38 : decode cX3_visit 38 = .ok (.iconst 1, 1) := by decide +kernel
theorem dX3_visit_39 : decode cX3_visit 39 = .ok (.isub, 1) := by decide +kernel
theorem dX3_visit_40 : decode cX3_visit 40 = .ok (.istore 8, 2) := by decide +kernel
theorem dX3_visit_42 : decode cX3_visit 42 = .ok (.aload_n 0, 1) := by decide +kernel
theorem dX3_visit_43 : decode cX3_visit 43 = .ok (.iload_n 3, 1) := by decide +kernel
theorem dX3_visit_44 : decode cX3_visit 44 = .ok (.iload 8, 2) := by decide +kernel
theorem dX3_visit_46 : decode cX3_visit 46 = .ok (.invokevirtual 122, 3) := by decide +kernel
theorem dX3_visit_49 : decode cX3_visit 49 = .ok (.istore 9, 2) := by decide +kernel
theorem dX3_visit_51 : decode cX3_visit 51 = .ok (.iload 8, 2) := by decide +kernel
theorem dX3_visit_53 : decode cX3_visit 53 = .ok (.ifCond .ne 20, 3) := by decide +kernel
theorem dX3_visit_56 : decode cX3_visit 56 = .ok (.iload 9, 2) := by decide +kernel
theorem dX3_visit_58 : decode cX3_visit 58 = .ok (.iload 7, 2) := by decide +kernel
theorem dX3_visit_60 : decode cX3_visit 60 = .ok (.if_icmp .eq 10, 3) := by decide +kernel
theorem dX3_visit_63 : decode cX3_visit 63 = .ok (.aload_n 0, 1) := by decide +kernel
theorem dX3_visit_64 : decode cX3_visit 64 = .ok (.iload 5, 2) := by decide +kernel
theorem dX3_visit_66 : decode cX3_visit 66 = .ok (.iload_n 3, 1) := by decide +kernel
theorem dX3_visit_67 : decode cX3_visit 67 = .ok (.invokevirtual 125, 3) := by decide +kernel
theorem dX3_visit_70 : decode cX3_visit 70 = .ok (.iinc 5 1, 3) := by decide +kernel
theorem dX3_visit_73 : decode cX3_visit 73 = .ok (.iinc 6 1, 3) := by decide +kernel
theorem dX3_visit_76 : decode cX3_visit 76 = .ok (.goto (-69), 3) := by decide +kernel
theorem dX3_visit_79 : decode cX3_visit 79 = .ok (.return_, 1) := by decide +kernel
def fX3_visit_73 (k7 : PH → Nat → Nat → Int32 → Int32 → Int32 → Int32 → Option (Unit × PH)) (g : PH) (v0 : Nat) (v1 : Nat) (v2 : Int32) (v3 : Int32) (v5 : Int32) (v6 : Int32) : Option (Unit × PH) :=
  k7 g v0 v1 v2 v3 v5 (v6 + (1 : Int32))
set_option maxHeartbeats 4000000 in
set_option maxRecDepth 100000 in
theorem bX3_visit_73 {K : HK} {E : HE} {r : Unit} {g' : PH} {k7 : PH → Nat → Nat → Int32 → Int32 → Int32 → Int32 → Option (Unit × PH)} (C : VC K E 10 cX3_visit RX3 none) (hk7 : ∀ (g : PH) (v0 : Nat) (v1 : Nat) (v2 : Int32) (v3 : Int32) (v5 : Int32) (v6 : Int32), k7 g v0 v1 v2 v3 v5 v6 = some (r, g') → V K E (hRm 3 67 0 0) 10 (hZ K E none g' 0 0) 0 0 (kS K) g 7 [(0, .ref v0), (1, .ref v1), (2, .int v2), (3, .int v3), (5, .int v5), (6, .int v6)] []) {g : PH} {v0 : Nat} {v1 : Nat} {v2 : Int32} {v3 : Int32} {v5 : Int32} {v6 : Int32} (hf : fX3_visit_73 k7 g v0 v1 v2 v3 v5 v6 = some (r, g')) : V K E (hRm 3 67 0 0) 10 (hZ K E none g' 0 0) 0 0 (kS K) g 73 [(0, .ref v0), (1, .ref v1), (2, .int v2), (3, .int v3), (5, .int v5), (6, .int v6)] [] := by
  unfold fX3_visit_73 at hf
  refine V.iinc (pc := 73) (v := (v6 + (1 : Int32))) (L' := [(6, .int (v6 + (1 : Int32))), (0, .ref v0), (1, .ref v1), (2, .int v2), (3, .int v3), (5, .int v5)]) C dX3_visit_73 5 rfl rfl (by decide) rfl ?_
  refine V.goto (pc := 76) (t := 7) C dX3_visit_76 (by decide) ?_
  refine V.sub (L' := [(0, .ref v0), (1, .ref v1), (2, .int v2), (3, .int v3), (5, .int v5), (6, .int (v6 + (1 : Int32)))]) [1, 2, 3, 4, 5, 0] rfl ?_
  exact hk7 _ _ _ _ _ _ _ hf
def fX3_visit_70 (k7 : PH → Nat → Nat → Int32 → Int32 → Int32 → Int32 → Option (Unit × PH)) (g : PH) (v0 : Nat) (v1 : Nat) (v2 : Int32) (v3 : Int32) (v5 : Int32) (v6 : Int32) : Option (Unit × PH) :=
  fX3_visit_73 (k7) g v0 v1 v2 v3 (v5 + (1 : Int32)) v6
set_option maxHeartbeats 4000000 in
set_option maxRecDepth 100000 in
theorem bX3_visit_70 {K : HK} {E : HE} {r : Unit} {g' : PH} {k7 : PH → Nat → Nat → Int32 → Int32 → Int32 → Int32 → Option (Unit × PH)} (C : VC K E 10 cX3_visit RX3 none) (hk7 : ∀ (g : PH) (v0 : Nat) (v1 : Nat) (v2 : Int32) (v3 : Int32) (v5 : Int32) (v6 : Int32), k7 g v0 v1 v2 v3 v5 v6 = some (r, g') → V K E (hRm 3 67 0 0) 10 (hZ K E none g' 0 0) 0 0 (kS K) g 7 [(0, .ref v0), (1, .ref v1), (2, .int v2), (3, .int v3), (5, .int v5), (6, .int v6)] []) {g : PH} {v0 : Nat} {v1 : Nat} {v2 : Int32} {v3 : Int32} {v5 : Int32} {v6 : Int32} (hf : fX3_visit_70 k7 g v0 v1 v2 v3 v5 v6 = some (r, g')) : V K E (hRm 3 67 0 0) 10 (hZ K E none g' 0 0) 0 0 (kS K) g 70 [(0, .ref v0), (1, .ref v1), (2, .int v2), (3, .int v3), (5, .int v5), (6, .int v6)] [] := by
  unfold fX3_visit_70 at hf
  refine V.iinc (pc := 70) (v := (v5 + (1 : Int32))) (L' := [(5, .int (v5 + (1 : Int32))), (0, .ref v0), (1, .ref v1), (2, .int v2), (3, .int v3), (6, .int v6)]) C dX3_visit_70 4 rfl rfl (by decide) rfl ?_
  refine V.sub (L' := [(0, .ref v0), (1, .ref v1), (2, .int v2), (3, .int v3), (5, .int (v5 + (1 : Int32))), (6, .int v6)]) [1, 2, 3, 4, 0, 5] rfl ?_
  exact bX3_visit_73 C hk7 hf
def fX3_visit_40 (k7 : PH → Nat → Nat → Int32 → Int32 → Int32 → Int32 → Option (Unit × PH)) (g : PH) (v0 : Nat) (v1 : Nat) (v2 : Int32) (v3 : Int32) (v5 : Int32) (v6 : Int32) (v7 : Int32) (s0 : Int32) : Option (Unit × PH) :=
  (fX3_operate g v0 v3 s0).bind fun q1 =>
  (if s0 = 0 then (if q1.1 = v7 then (fX3_visit_70 (k7) q1.2 v0 v1 v2 v3 v5 v6) else
  ((fX3_note q1.2 v0 v5 v3).bind fun q5 =>
  (fX3_visit_70 (k7) q5.2 v0 v1 v2 v3 v5 v6))) else
  (fX3_visit_73 (k7) q1.2 v0 v1 v2 v3 v5 v6))
set_option maxHeartbeats 4000000 in
set_option maxRecDepth 100000 in
theorem bX3_visit_40 {K : HK} {E : HE} {r : Unit} {g' : PH} {k7 : PH → Nat → Nat → Int32 → Int32 → Int32 → Int32 → Option (Unit × PH)} (C : VC K E 10 cX3_visit RX3 none) (hk7 : ∀ (g : PH) (v0 : Nat) (v1 : Nat) (v2 : Int32) (v3 : Int32) (v5 : Int32) (v6 : Int32), k7 g v0 v1 v2 v3 v5 v6 = some (r, g') → V K E (hRm 3 67 0 0) 10 (hZ K E none g' 0 0) 0 0 (kS K) g 7 [(0, .ref v0), (1, .ref v1), (2, .int v2), (3, .int v3), (5, .int v5), (6, .int v6)] []) {g : PH} {v0 : Nat} {v1 : Nat} {v2 : Int32} {v3 : Int32} {v5 : Int32} {v6 : Int32} {v7 : Int32} {s0 : Int32} (hf : fX3_visit_40 k7 g v0 v1 v2 v3 v5 v6 v7 s0 = some (r, g')) : V K E (hRm 3 67 0 0) 10 (hZ K E none g' 0 0) 0 0 (kS K) g 40 [(0, .ref v0), (1, .ref v1), (2, .int v2), (3, .int v3), (5, .int v5), (6, .int v6), (7, .int v7)] [.int s0] := by
  unfold fX3_visit_40 at hf
  refine V.istore (pc := 40) (L' := [(8, .int s0), (0, .ref v0), (1, .ref v1), (2, .int v2), (3, .int v3), (5, .int v5), (6, .int v6), (7, .int v7)]) C dX3_visit_40 (by decide) rfl ?_
  refine V.aload_n (pc := 42) C dX3_visit_42 1 rfl ?_
  refine V.iload_n (pc := 43) C dX3_visit_43 4 rfl ?_
  refine V.iload (pc := 44) C dX3_visit_44 0 rfl ?_
  replace hf := ob_some hf
  obtain ⟨q1, h2, hf⟩ := hf
  refine V.callV0i (pc := 46) C hyX3_operate wd_889 (mX3_operate (r := q1.1) (g' := q1.2) K.2.1 E (kS K) h2) rfl rfl rfl (oX3_operate h2) ⟨Nat.le_of_ble_eq_true rfl, Nat.le_of_ble_eq_true rfl⟩ (Nat.le_of_ble_eq_true rfl) dX3_visit_46 ⟨Nat.zero_le _, Nat.zero_le _⟩ rfl ?_
  refine V.istore (pc := 49) (L' := [(9, .int q1.1), (8, .int s0), (0, .ref v0), (1, .ref v1), (2, .int v2), (3, .int v3), (5, .int v5), (6, .int v6), (7, .int v7)]) C dX3_visit_49 (by decide) rfl ?_
  refine V.iload (pc := 51) C dX3_visit_51 1 rfl ?_
  refine V.if_ne (pc := 53) (t := 73) C dX3_visit_53 (by decide) (fun c3 => ?_) (fun c3 => ?_)
  · replace hf := ite_f c3 hf
    refine V.sub (L' := [(0, .ref v0), (1, .ref v1), (2, .int v2), (3, .int v3), (5, .int v5), (6, .int v6)]) [2, 3, 4, 5, 6, 7] rfl ?_
    exact bX3_visit_73 C hk7 hf
  replace hf := ite_t c3 hf
  refine V.iload (pc := 56) C dX3_visit_56 0 rfl ?_
  refine V.iload (pc := 58) C dX3_visit_58 8 rfl ?_
  refine V.icmp_eq (pc := 60) (t := 70) C dX3_visit_60 (by decide) (fun c4 => ?_) (fun c4 => ?_)
  · replace hf := ite_t c4 hf
    refine V.sub (L' := [(0, .ref v0), (1, .ref v1), (2, .int v2), (3, .int v3), (5, .int v5), (6, .int v6)]) [2, 3, 4, 5, 6, 7] rfl ?_
    exact bX3_visit_70 C hk7 hf
  replace hf := ite_f c4 hf
  refine V.aload_n (pc := 63) C dX3_visit_63 2 rfl ?_
  refine V.iload (pc := 64) C dX3_visit_64 6 rfl ?_
  refine V.iload_n (pc := 66) C dX3_visit_66 5 rfl ?_
  replace hf := ob_some hf
  obtain ⟨q5, h6, hf⟩ := hf
  refine V.callV0v (pc := 67) C hyX3_note wd_890 (mX3_note (r := q5.1) (g' := q5.2) K.2.1 E (kS K) h6) rfl rfl rfl (oX3_note h6) ⟨Nat.le_of_ble_eq_true rfl, Nat.le_of_ble_eq_true rfl⟩ (Nat.le_of_ble_eq_true rfl) dX3_visit_67 ⟨Nat.zero_le _, Nat.zero_le _⟩ rfl ?_
  refine V.sub (L' := [(0, .ref v0), (1, .ref v1), (2, .int v2), (3, .int v3), (5, .int v5), (6, .int v6)]) [2, 3, 4, 5, 6, 7] rfl ?_
  exact bX3_visit_70 C hk7 hf
def fX3_visit_7  : Nat → PH → Nat → Nat → Int32 → Int32 → Int32 → Int32 → Option (Unit × PH)
  | 0, _, _, _, _, _, _, _ => none
  | n + 1, g, v0, v1, v2, v3, v5, v6 =>
  (fX2_opsOf g v1 v2).bind fun q1 =>
  (if q1.1 ≤ v6 then (some ((), q1.2)) else
  ((fX2_opAt q1.2 v1 v2 v6).bind fun q4 =>
  (if (2 : Int32) ≤ q4.1 then (fX3_visit_40 (fX3_visit_7 n) q4.2 v0 v1 v2 v3 v5 v6 q4.1 (q4.1 - (1 : Int32))) else
  (fX3_visit_40 (fX3_visit_7 n) q4.2 v0 v1 v2 v3 v5 v6 q4.1 (0 : Int32)))))
set_option maxHeartbeats 4000000 in
set_option maxRecDepth 100000 in
theorem bX3_visit_7 {K : HK} {E : HE} {r : Unit} {g' : PH}  (C : VC K E 10 cX3_visit RX3 none)  : ∀ (n : Nat) (g : PH) (v0 : Nat) (v1 : Nat) (v2 : Int32) (v3 : Int32) (v5 : Int32) (v6 : Int32), fX3_visit_7  n g v0 v1 v2 v3 v5 v6 = some (r, g') → V K E (hRm 3 67 0 0) 10 (hZ K E none g' 0 0) 0 0 (kS K) g 7 [(0, .ref v0), (1, .ref v1), (2, .int v2), (3, .int v3), (5, .int v5), (6, .int v6)] [] := by
  intro n
  induction n with
  | zero =>
    intro g v0 v1 v2 v3 v5 v6 hf
    rw [fX3_visit_7] at hf
    cases hf
  | succ n ih =>
    intro g v0 v1 v2 v3 v5 v6 hf
    rw [fX3_visit_7] at hf
    refine V.iload (pc := 7) C dX3_visit_7 5 rfl ?_
    refine V.aload_n (pc := 9) C dX3_visit_9 1 rfl ?_
    refine V.iload_n (pc := 10) C dX3_visit_10 2 rfl ?_
    replace hf := ob_some hf
    obtain ⟨q1, h2, hf⟩ := hf
    refine V.callV0i (pc := 11) C hyX2_opsOf wd_887 (mX2_opsOf (r := q1.1) (g' := q1.2) K.2.1 E (kS K) h2) rfl rfl rfl (oX2_opsOf h2) ⟨Nat.le_of_ble_eq_true rfl, Nat.le_of_ble_eq_true rfl⟩ (Nat.le_of_ble_eq_true rfl) dX3_visit_11 ⟨Nat.zero_le _, Nat.zero_le _⟩ rfl ?_
    refine V.icmp_ge (pc := 14) (t := 79) C dX3_visit_14 (by decide) (fun c3 => ?_) (fun c3 => ?_)
    · replace hf := ite_t c3 hf
      obtain ⟨f1, f2⟩ := fin2 hf
      clear hf
      subst f1
      subst f2
      exact V.vret (pc := 79) C rfl dX3_visit_79
    replace hf := ite_f c3 hf
    refine V.aload_n (pc := 17) C dX3_visit_17 1 rfl ?_
    refine V.iload_n (pc := 18) C dX3_visit_18 2 rfl ?_
    refine V.iload (pc := 19) C dX3_visit_19 5 rfl ?_
    replace hf := ob_some hf
    obtain ⟨q4, h5, hf⟩ := hf
    refine V.callV0i (pc := 21) C hyX2_opAt wd_888 (mX2_opAt (r := q4.1) (g' := q4.2) K.2.1 E (kS K) h5) rfl rfl rfl (oX2_opAt h5) ⟨Nat.le_of_ble_eq_true rfl, Nat.le_of_ble_eq_true rfl⟩ (Nat.le_of_ble_eq_true rfl) dX3_visit_21 ⟨Nat.zero_le _, Nat.zero_le _⟩ rfl ?_
    refine V.istore (pc := 24) (L' := [(7, .int q4.1), (0, .ref v0), (1, .ref v1), (2, .int v2), (3, .int v3), (5, .int v5), (6, .int v6)]) C dX3_visit_24 (by decide) rfl ?_
    refine V.iload (pc := 26) C dX3_visit_26 0 rfl ?_
    refine V.iconst (pc := 28) C dX3_visit_28 (v := (2 : Int32)) (by decide) ?_
    refine V.icmp_ge (pc := 29) (t := 36) C dX3_visit_29 (by decide) (fun c6 => ?_) (fun c6 => ?_)
    · replace hf := ite_t c6 hf
      refine V.iload (pc := 36) C dX3_visit_36 0 rfl ?_
      refine V.iconst (pc := 38) C dX3_visit_38 (v := (1 : Int32)) (by decide) ?_
      refine V.isub (pc := 39) C dX3_visit_39 ?_
      refine V.sub (L' := [(0, .ref v0), (1, .ref v1), (2, .int v2), (3, .int v3), (5, .int v5), (6, .int v6), (7, .int q4.1)]) [1, 2, 3, 4, 5, 6, 0] rfl ?_
      exact bX3_visit_40 C ih hf
    replace hf := ite_f c6 hf
    refine V.iconst (pc := 32) C dX3_visit_32 (v := (0 : Int32)) (by decide) ?_
    refine V.goto (pc := 33) (t := 40) C dX3_visit_33 (by decide) ?_
    refine V.sub (L' := [(0, .ref v0), (1, .ref v1), (2, .int v2), (3, .int v3), (5, .int v5), (6, .int v6), (7, .int q4.1)]) [1, 2, 3, 4, 5, 6, 0] rfl ?_
    exact bX3_visit_40 C ih hf
def fX3_visit (g : PH) (a0 : Nat) (a1 : Nat) (a2 : Int32) (a3 : Int32) (a4 : Int32) : Option (Unit × PH) :=
  okb (isO g a0 3) (fX3_visit_7 FUEL g a0 a1 a2 a3 a4 (0 : Int32))
theorem oX3_visit {g : PH} {a0 : Nat} {a1 : Nat} {a2 : Int32} {a3 : Int32} {a4 : Int32} {q : (Unit × PH)} (h : fX3_visit g a0 a1 a2 a3 a4 = some q) : isO g a0 3 = true := by unfold fX3_visit at h; exact (okb_some h).1
theorem hyX3_visit : hMet yX3_visit RX3 cX3_visit 10 none 4 := ⟨wd_886, wd_885, ws_40, wd_3, rfl, by decide +kernel, by decide +kernel, by decide +kernel⟩
set_option maxHeartbeats 4000000 in
set_option maxRecDepth 100000 in
theorem mX3_visit (l : Launch) (E : HE) (sz : Nat) {g g' : PH} {a0 : Nat} {a1 : Nat} {a2 : Int32} {a3 : Int32} {a4 : Int32} {r : Unit} (hf : fX3_visit g a0 a1 a2 a3 a4 = some (r, g')) : hM l E yX3_visit cX3_visit 10 none 3 67 0 0 sz g [.ref a0, .ref a1, .int a2, .int a3, .int a4] none g' := by
  refine hM.of (by decide) (Nat.le_of_ble_eq_true rfl) (fun K hl C hin hsz => ?_)
  subst hl
  subst hsz
  have C : VC K E 10 cX3_visit RX3 none := C
  unfold fX3_visit at hf
  replace hf := okb_some hf
  obtain ⟨ho, hf⟩ := hf
  refine V.start (L' := [(0, .ref a0), (1, .ref a1), (2, .int a2), (3, .int a3), (4, .int a4)]) rfl ?_
  refine V.iload (pc := 0) C dX3_visit_0 4 rfl ?_
  refine V.istore (pc := 2) (L' := [(5, .int a4), (0, .ref a0), (1, .ref a1), (2, .int a2), (3, .int a3), (4, .int a4)]) C dX3_visit_2 (by decide) rfl ?_
  refine V.iconst (pc := 4) C dX3_visit_4 (v := (0 : Int32)) (by decide) ?_
  refine V.istore (pc := 5) (L' := [(6, .int (0 : Int32)), (5, .int a4), (0, .ref a0), (1, .ref a1), (2, .int a2), (3, .int a3), (4, .int a4)]) C dX3_visit_5 (by decide) rfl ?_
  refine V.sub (L' := [(0, .ref a0), (1, .ref a1), (2, .int a2), (3, .int a3), (5, .int a4), (6, .int (0 : Int32))]) [2, 3, 4, 5, 1, 0] rfl ?_
  exact bX3_visit_7 C  _ _ _ _ _ _ _ _ hf
theorem dX3_goThrough_0 : decode cX3_goThrough 0 = .ok (.aload_n 0, 1) := by decide +kernel
theorem dX3_goThrough_1 : decode cX3_goThrough 1 = .ok (.iload_n 2, 1) := by decide +kernel
theorem dX3_goThrough_2 : decode cX3_goThrough 2 = .ok (.putfield 31, 3) := by decide +kernel
theorem dX3_goThrough_5 : decode cX3_goThrough 5 = .ok (.aload_n 0, 1) := by decide +kernel
theorem dX3_goThrough_6 : decode cX3_goThrough 6 = .ok (.iload_n 3, 1) := by decide +kernel
theorem dX3_goThrough_7 : decode cX3_goThrough 7 = .ok (.putfield 34, 3) := by decide +kernel
theorem dX3_goThrough_10 : decode cX3_goThrough 10 = .ok (.aload_n 0, 1) := by decide +kernel
theorem dX3_goThrough_11 : decode cX3_goThrough 11 = .ok (.iconst 0, 1) := by decide +kernel
theorem dX3_goThrough_12 : decode cX3_goThrough 12 = .ok (.putfield 37, 3) := by decide +kernel
theorem dX3_goThrough_15 : decode cX3_goThrough 15 = .ok (.aload_n 0, 1) := by decide +kernel
theorem dX3_goThrough_16 : decode cX3_goThrough 16 = .ok (.iconst 0, 1) := by decide +kernel
theorem dX3_goThrough_17 : decode cX3_goThrough 17 = .ok (.putfield 40, 3) := by decide +kernel
theorem dX3_goThrough_20 : decode cX3_goThrough 20 = .ok (.iconst 0, 1) := by decide +kernel
theorem dX3_goThrough_21 : decode cX3_goThrough 21 = .ok (.istore 4, 2) := by decide +kernel
theorem dX3_goThrough_23 : decode cX3_goThrough 23 = .ok (.iconst 0, 1) := by decide +kernel
theorem dX3_goThrough_24 : decode cX3_goThrough 24 = .ok (.istore 5, 2) := by decide +kernel
theorem dX3_goThrough_26 : decode cX3_goThrough 26 = .ok (.iload 5, 2) := by decide +kernel
theorem dX3_goThrough_28 : decode cX3_goThrough 28 = .ok (.aload_n 1, 1) := by decide +kernel
theorem dX3_goThrough_29 : decode cX3_goThrough 29 = .ok (.getfield 100, 3) := by decide +kernel
theorem dX3_goThrough_32 : decode cX3_goThrough 32 = .ok (.if_icmp .ge 75, 3) := by decide +kernel
theorem dX3_goThrough_35 : decode cX3_goThrough 35 = .ok (.aload_n 1, 1) := by decide +kernel
theorem dX3_goThrough_36 : decode cX3_goThrough 36 = .ok (.iload 5, 2) := by decide +kernel
theorem dX3_goThrough_38 : decode cX3_goThrough 38 = .ok (.iload_n 3, 1) := by decide +kernel
theorem dX3_goThrough_39 : decode cX3_goThrough 39 = .ok (.invokevirtual 105, 3) := by decide +kernel
theorem dX3_goThrough_42 : decode cX3_goThrough 42 = .ok (.istore 6, 2) := by decide +kernel
theorem dX3_goThrough_44 : decode cX3_goThrough 44 = .ok (.iconst 0, 1) := by decide +kernel
theorem dX3_goThrough_45 : decode cX3_goThrough 45 = .ok (.istore 7, 2) := by decide +kernel
theorem dX3_goThrough_47 : decode cX3_goThrough 47 = .ok (.iload 7, 2) := by decide +kernel
theorem dX3_goThrough_49 : decode cX3_goThrough 49 = .ok (.aload_n 0, 1) := by decide +kernel
theorem dX3_goThrough_50 : decode cX3_goThrough 50 = .ok (.getfield 9, 3) := by decide +kernel
theorem dX3_goThrough_53 : decode cX3_goThrough 53 = .ok (.if_icmp .ge 48, 3) := by decide +kernel
theorem dX3_goThrough_56 : decode cX3_goThrough 56 = .ok (.aload_n 0, 1) := by decide +kernel
theorem dX3_goThrough_57 : decode cX3_goThrough 57 = .ok (.aload_n 1, 1) := by decide +kernel
theorem dX3_goThrough_58 : decode cX3_goThrough 58 = .ok (.iload 5, 2) := by decide +kernel
theorem dX3_goThrough_60 : decode cX3_goThrough 60 = .ok (.iload 6, 2) := by decide +kernel
theorem dX3_goThrough_62 : decode cX3_goThrough 62 = .ok (.ifCond .eq 15, 3) := by decide +kernel
theorem dX3_goThrough_65 : decode cX3_goThrough 65 = .ok (.aload_n 0, 1) := by decide +kernel
theorem dX3_goThrough_66 : decode cX3_goThrough 66 = .ok (.getfield 9, 3) := by decide +kernel
theorem dX3_goThrough_69 : decode cX3_goThrough 69 = .ok (.iconst 1, 1) := by decide +kernel
theorem dX3_goThrough_70 : decode cX3_goThrough 70 = .ok (.isub, 1) := by decide +kernel
theorem dX3_goThrough_71 : decode cX3_goThrough 71 = .ok (.iload 7, 2) := by decide +kernel
theorem dX3_goThrough_73 : decode cX3_goThrough 73 = .ok (.isub, 1) := by decide +kernel
theorem dX3_goThrough_74 : decode cX3_goThrough 74 = .ok (.goto 5, 3) := by decide +kernel
theorem dX3_goThrough_77 : decode cX3_goThrough 77 = .ok (.iload 7, 2) := by decide +kernel
theorem dX3_goThrough_79 : decode cX3_goThrough 79 = .ok (.iload 4, 2) := by decide +kernel
theorem dX3_goThrough_81 : decode cX3_goThrough 81 = .ok (.invokevirtual 109, 3) := by decide +kernel
theorem dX3_goThrough_84 : decode cX3_goThrough 84 = .ok (.iload 4, 2) := by decide +kernel
theorem dX3_goThrough_86 : decode cX3_goThrough 86 = .ok (.aload_n 1, 1) := by decide +kernel
theorem dX3_goThrough_87 : decode cX3_goThrough 87 = .ok (.iload 5, 2) := by decide +kernel
theorem dX3_goThrough_89 : decode cX3_goThrough 89 = .ok (.invokevirtual 113, 3) := by decide +kernel
theorem dX3_goThrough_92 : decode cX3_goThrough 92 = .ok (.iadd, 1) := by decide +kernel
theorem dX3_goThrough_93 : decode cX3_goThrough 93 = .ok (.istore 4, 2) := by decide +kernel
theorem dX3_goThrough_95 : decode cX3_goThrough 95 = .ok (.iinc 7 1, 3) := by decide +kernel
theorem dX3_goThrough_98 : decode cX3_goThrough 98 = .ok (.goto (-51), 3) := by decide +kernel
theorem dX3_goThrough_101 : decode cX3_goThrough 101 = .ok (.iinc 5 1, 3) := by decide +kernel
theorem dX3_goThrough_104 : decode cX3_goThrough 104 = .ok (.goto (-78), 3) := by decide +kernel
theorem dX3_goThrough_107 : decode cX3_goThrough 107 = .ok (.return_, 1) := by decide +kernel
def fX3_goThrough_79 (k26 : PH → Nat → Nat → Int32 → Int32 → Int32 → Option (Unit × PH)) (k47 : PH → Nat → Nat → Int32 → Int32 → Int32 → Int32 → Int32 → Option (Unit × PH)) (g : PH) (v0 : Nat) (v1 : Nat) (v3 : Int32) (v4 : Int32) (v5 : Int32) (v6 : Int32) (v7 : Int32) (s0 : Int32) (s1 : Int32) (s2 : Nat) (s3 : Nat) : Option (Unit × PH) :=
  (fX3_visit g s3 s2 s1 s0 v4).bind fun q1 =>
  ((fX2_readsOf q1.2 v1 v5).bind fun q3 =>
  (k47 q3.2 v0 v1 v3 (v4 + q3.1) v5 v6 (v7 + (1 : Int32))))
set_option maxHeartbeats 4000000 in
set_option maxRecDepth 100000 in
theorem bX3_goThrough_79 {K : HK} {E : HE} {r : Unit} {g' : PH} {k26 : PH → Nat → Nat → Int32 → Int32 → Int32 → Option (Unit × PH)} {k47 : PH → Nat → Nat → Int32 → Int32 → Int32 → Int32 → Int32 → Option (Unit × PH)} (C : VC K E 8 cX3_goThrough RX3 none) (hk26 : ∀ (g : PH) (v0 : Nat) (v1 : Nat) (v3 : Int32) (v4 : Int32) (v5 : Int32), k26 g v0 v1 v3 v4 v5 = some (r, g') → V K E (hRm 4 96 0 0) 8 (hZ K E none g' 0 0) 0 0 (kS K) g 26 [(0, .ref v0), (1, .ref v1), (3, .int v3), (4, .int v4), (5, .int v5)] []) (hk47 : ∀ (g : PH) (v0 : Nat) (v1 : Nat) (v3 : Int32) (v4 : Int32) (v5 : Int32) (v6 : Int32) (v7 : Int32), k47 g v0 v1 v3 v4 v5 v6 v7 = some (r, g') → V K E (hRm 4 96 0 0) 8 (hZ K E none g' 0 0) 0 0 (kS K) g 47 [(0, .ref v0), (1, .ref v1), (3, .int v3), (4, .int v4), (5, .int v5), (6, .int v6), (7, .int v7)] []) {g : PH} {v0 : Nat} {v1 : Nat} {v3 : Int32} {v4 : Int32} {v5 : Int32} {v6 : Int32} {v7 : Int32} {s0 : Int32} {s1 : Int32} {s2 : Nat} {s3 : Nat} (hf : fX3_goThrough_79 k26 k47 g v0 v1 v3 v4 v5 v6 v7 s0 s1 s2 s3 = some (r, g')) : V K E (hRm 4 96 0 0) 8 (hZ K E none g' 0 0) 0 0 (kS K) g 79 [(0, .ref v0), (1, .ref v1), (3, .int v3), (4, .int v4), (5, .int v5), (6, .int v6), (7, .int v7)] [.int s0, .int s1, .ref s2, .ref s3] := by
  unfold fX3_goThrough_79 at hf
  refine V.iload (pc := 79) C dX3_goThrough_79 3 rfl ?_
  replace hf := ob_some hf
  obtain ⟨q1, h2, hf⟩ := hf
  refine V.callV0v (pc := 81) C hyX3_visit wd_883 (mX3_visit (r := q1.1) (g' := q1.2) K.2.1 E (kS K) h2) rfl rfl rfl (oX3_visit h2) ⟨Nat.le_of_ble_eq_true rfl, Nat.le_of_ble_eq_true rfl⟩ (Nat.le_of_ble_eq_true rfl) dX3_goThrough_81 ⟨Nat.zero_le _, Nat.zero_le _⟩ rfl ?_
  refine V.iload (pc := 84) C dX3_goThrough_84 3 rfl ?_
  refine V.aload_n (pc := 86) C dX3_goThrough_86 1 rfl ?_
  refine V.iload (pc := 87) C dX3_goThrough_87 4 rfl ?_
  replace hf := ob_some hf
  obtain ⟨q3, h4, hf⟩ := hf
  refine V.callV0i (pc := 89) C hyX2_readsOf wd_894 (mX2_readsOf (r := q3.1) (g' := q3.2) K.2.1 E (kS K) h4) rfl rfl rfl (oX2_readsOf h4) ⟨Nat.le_of_ble_eq_true rfl, Nat.le_of_ble_eq_true rfl⟩ (Nat.le_of_ble_eq_true rfl) dX3_goThrough_89 ⟨Nat.zero_le _, Nat.zero_le _⟩ rfl ?_
  refine V.iadd (pc := 92) C dX3_goThrough_92 ?_
  refine V.istore (pc := 93) (L' := [(4, .int (v4 + q3.1)), (0, .ref v0), (1, .ref v1), (3, .int v3), (5, .int v5), (6, .int v6), (7, .int v7)]) C dX3_goThrough_93 (by decide) rfl ?_
  refine V.iinc (pc := 95) (v := (v7 + (1 : Int32))) (L' := [(7, .int (v7 + (1 : Int32))), (4, .int (v4 + q3.1)), (0, .ref v0), (1, .ref v1), (3, .int v3), (5, .int v5), (6, .int v6)]) C dX3_goThrough_95 6 rfl rfl (by decide) rfl ?_
  refine V.goto (pc := 98) (t := 47) C dX3_goThrough_98 (by decide) ?_
  refine V.sub (L' := [(0, .ref v0), (1, .ref v1), (3, .int v3), (4, .int (v4 + q3.1)), (5, .int v5), (6, .int v6), (7, .int (v7 + (1 : Int32)))]) [2, 3, 4, 1, 5, 6, 0] rfl ?_
  exact hk47 _ _ _ _ _ _ _ _ hf
def fX3_goThrough_47 (k26 : PH → Nat → Nat → Int32 → Int32 → Int32 → Option (Unit × PH)) : Nat → PH → Nat → Nat → Int32 → Int32 → Int32 → Int32 → Int32 → Option (Unit × PH)
  | 0, _, _, _, _, _, _, _, _ => none
  | n + 1, g, v0, v1, v3, v4, v5, v6, v7 =>
  (getI g v0 3 0).bind fun x1 =>
  (if x1 ≤ v7 then (k26 g v0 v1 v3 v4 (v5 + (1 : Int32))) else
  (if v6 = 0 then (fX3_goThrough_79 (k26) (fX3_goThrough_47 k26 n) g v0 v1 v3 v4 v5 v6 v7 v7 v5 v1 v0) else
  ((getI g v0 3 0).bind fun x5 =>
  (fX3_goThrough_79 (k26) (fX3_goThrough_47 k26 n) g v0 v1 v3 v4 v5 v6 v7 ((x5 - (1 : Int32)) - v7) v5 v1 v0))))
set_option maxHeartbeats 4000000 in
set_option maxRecDepth 100000 in
theorem bX3_goThrough_47 {K : HK} {E : HE} {r : Unit} {g' : PH} {k26 : PH → Nat → Nat → Int32 → Int32 → Int32 → Option (Unit × PH)} (C : VC K E 8 cX3_goThrough RX3 none) (hk26 : ∀ (g : PH) (v0 : Nat) (v1 : Nat) (v3 : Int32) (v4 : Int32) (v5 : Int32), k26 g v0 v1 v3 v4 v5 = some (r, g') → V K E (hRm 4 96 0 0) 8 (hZ K E none g' 0 0) 0 0 (kS K) g 26 [(0, .ref v0), (1, .ref v1), (3, .int v3), (4, .int v4), (5, .int v5)] []) : ∀ (n : Nat) (g : PH) (v0 : Nat) (v1 : Nat) (v3 : Int32) (v4 : Int32) (v5 : Int32) (v6 : Int32) (v7 : Int32), fX3_goThrough_47 k26 n g v0 v1 v3 v4 v5 v6 v7 = some (r, g') → V K E (hRm 4 96 0 0) 8 (hZ K E none g' 0 0) 0 0 (kS K) g 47 [(0, .ref v0), (1, .ref v1), (3, .int v3), (4, .int v4), (5, .int v5), (6, .int v6), (7, .int v7)] [] := by
  intro n
  induction n with
  | zero =>
    intro g v0 v1 v3 v4 v5 v6 v7 hf
    rw [fX3_goThrough_47] at hf
    cases hf
  | succ n ih =>
    intro g v0 v1 v3 v4 v5 v6 v7 hf
    rw [fX3_goThrough_47] at hf
    refine V.iload (pc := 47) C dX3_goThrough_47 6 rfl ?_
    refine V.aload_n (pc := 49) C dX3_goThrough_49 0 rfl ?_
    replace hf := ob_some hf
    obtain ⟨x1, h2, hf⟩ := hf
    refine V.getI (pc := 50) C kX3 (k := 0) (by decide) wd_59 h2 dX3_goThrough_50 ?_
    refine V.icmp_ge (pc := 53) (t := 101) C dX3_goThrough_53 (by decide) (fun c3 => ?_) (fun c3 => ?_)
    · replace hf := ite_t c3 hf
      refine V.iinc (pc := 101) (v := (v5 + (1 : Int32))) (L' := [(5, .int (v5 + (1 : Int32))), (0, .ref v0), (1, .ref v1), (3, .int v3), (4, .int v4), (6, .int v6), (7, .int v7)]) C dX3_goThrough_101 4 rfl rfl (by decide) rfl ?_
      refine V.goto (pc := 104) (t := 26) C dX3_goThrough_104 (by decide) ?_
      refine V.sub (L' := [(0, .ref v0), (1, .ref v1), (3, .int v3), (4, .int v4), (5, .int (v5 + (1 : Int32)))]) [1, 2, 3, 4, 0] rfl ?_
      exact hk26 _ _ _ _ _ _ hf
    replace hf := ite_f c3 hf
    refine V.aload_n (pc := 56) C dX3_goThrough_56 0 rfl ?_
    refine V.aload_n (pc := 57) C dX3_goThrough_57 1 rfl ?_
    refine V.iload (pc := 58) C dX3_goThrough_58 4 rfl ?_
    refine V.iload (pc := 60) C dX3_goThrough_60 5 rfl ?_
    refine V.if_eq (pc := 62) (t := 77) C dX3_goThrough_62 (by decide) (fun c4 => ?_) (fun c4 => ?_)
    · replace hf := ite_t c4 hf
      refine V.iload (pc := 77) C dX3_goThrough_77 6 rfl ?_
      refine V.sub (L' := [(0, .ref v0), (1, .ref v1), (3, .int v3), (4, .int v4), (5, .int v5), (6, .int v6), (7, .int v7)]) [0, 1, 2, 3, 4, 5, 6] rfl ?_
      exact bX3_goThrough_79 C hk26 ih hf
    replace hf := ite_f c4 hf
    refine V.aload_n (pc := 65) C dX3_goThrough_65 0 rfl ?_
    replace hf := ob_some hf
    obtain ⟨x5, h6, hf⟩ := hf
    refine V.getI (pc := 66) C kX3 (k := 0) (by decide) wd_59 h6 dX3_goThrough_66 ?_
    refine V.iconst (pc := 69) C dX3_goThrough_69 (v := (1 : Int32)) (by decide) ?_
    refine V.isub (pc := 70) C dX3_goThrough_70 ?_
    refine V.iload (pc := 71) C dX3_goThrough_71 6 rfl ?_
    refine V.isub (pc := 73) C dX3_goThrough_73 ?_
    refine V.goto (pc := 74) (t := 79) C dX3_goThrough_74 (by decide) ?_
    refine V.sub (L' := [(0, .ref v0), (1, .ref v1), (3, .int v3), (4, .int v4), (5, .int v5), (6, .int v6), (7, .int v7)]) [0, 1, 2, 3, 4, 5, 6] rfl ?_
    exact bX3_goThrough_79 C hk26 ih hf
def fX3_goThrough_26  : Nat → PH → Nat → Nat → Int32 → Int32 → Int32 → Option (Unit × PH)
  | 0, _, _, _, _, _, _ => none
  | n + 1, g, v0, v1, v3, v4, v5 =>
  (getI g v1 2 0).bind fun x1 =>
  (if x1 ≤ v5 then (some ((), g)) else
  ((fX2_isDown g v1 v5 v3).bind fun q4 =>
  (fX3_goThrough_47 (fX3_goThrough_26 n) FUEL q4.2 v0 v1 v3 v4 v5 q4.1 (0 : Int32))))
set_option maxHeartbeats 4000000 in
set_option maxRecDepth 100000 in
theorem bX3_goThrough_26 {K : HK} {E : HE} {r : Unit} {g' : PH}  (C : VC K E 8 cX3_goThrough RX3 none)  : ∀ (n : Nat) (g : PH) (v0 : Nat) (v1 : Nat) (v3 : Int32) (v4 : Int32) (v5 : Int32), fX3_goThrough_26  n g v0 v1 v3 v4 v5 = some (r, g') → V K E (hRm 4 96 0 0) 8 (hZ K E none g' 0 0) 0 0 (kS K) g 26 [(0, .ref v0), (1, .ref v1), (3, .int v3), (4, .int v4), (5, .int v5)] [] := by
  intro n
  induction n with
  | zero =>
    intro g v0 v1 v3 v4 v5 hf
    rw [fX3_goThrough_26] at hf
    cases hf
  | succ n ih =>
    intro g v0 v1 v3 v4 v5 hf
    rw [fX3_goThrough_26] at hf
    refine V.iload (pc := 26) C dX3_goThrough_26 4 rfl ?_
    refine V.aload_n (pc := 28) C dX3_goThrough_28 1 rfl ?_
    replace hf := ob_some hf
    obtain ⟨x1, h2, hf⟩ := hf
    refine V.getI (pc := 29) C kX2 (k := 0) (by decide) wd_447 h2 dX3_goThrough_29 ?_
    refine V.icmp_ge (pc := 32) (t := 107) C dX3_goThrough_32 (by decide) (fun c3 => ?_) (fun c3 => ?_)
    · replace hf := ite_t c3 hf
      obtain ⟨f1, f2⟩ := fin2 hf
      clear hf
      subst f1
      subst f2
      exact V.vret (pc := 107) C rfl dX3_goThrough_107
    replace hf := ite_f c3 hf
    refine V.aload_n (pc := 35) C dX3_goThrough_35 1 rfl ?_
    refine V.iload (pc := 36) C dX3_goThrough_36 4 rfl ?_
    refine V.iload_n (pc := 38) C dX3_goThrough_38 2 rfl ?_
    replace hf := ob_some hf
    obtain ⟨q4, h5, hf⟩ := hf
    refine V.callV0i (pc := 39) C hyX2_isDown wd_882 (mX2_isDown (r := q4.1) (g' := q4.2) K.2.1 E (kS K) h5) rfl rfl rfl (oX2_isDown h5) ⟨Nat.le_of_ble_eq_true rfl, Nat.le_of_ble_eq_true rfl⟩ (Nat.le_of_ble_eq_true rfl) dX3_goThrough_39 ⟨Nat.zero_le _, Nat.zero_le _⟩ rfl ?_
    refine V.istore (pc := 42) (L' := [(6, .int q4.1), (0, .ref v0), (1, .ref v1), (3, .int v3), (4, .int v4), (5, .int v5)]) C dX3_goThrough_42 (by decide) rfl ?_
    refine V.iconst (pc := 44) C dX3_goThrough_44 (v := (0 : Int32)) (by decide) ?_
    refine V.istore (pc := 45) (L' := [(7, .int (0 : Int32)), (6, .int q4.1), (0, .ref v0), (1, .ref v1), (3, .int v3), (4, .int v4), (5, .int v5)]) C dX3_goThrough_45 (by decide) rfl ?_
    refine V.sub (L' := [(0, .ref v0), (1, .ref v1), (3, .int v3), (4, .int v4), (5, .int v5), (6, .int q4.1), (7, .int (0 : Int32))]) [2, 3, 4, 5, 6, 1, 0] rfl ?_
    exact bX3_goThrough_47 C ih _ _ _ _ _ _ _ _ _ hf
def fX3_goThrough (g : PH) (a0 : Nat) (a1 : Nat) (a2 : Int32) (a3 : Int32) : Option (Unit × PH) :=
  okb (isO g a0 3) ((putV g a0 3 6 (.int a2)).bind fun g1 =>
  ((putV g1 a0 3 7 (.int a3)).bind fun g3 =>
  ((putV g3 a0 3 8 (.int (0 : Int32))).bind fun g5 =>
  ((putV g5 a0 3 9 (.int (0 : Int32))).bind fun g7 =>
  (fX3_goThrough_26 FUEL g7 a0 a1 a3 (0 : Int32) (0 : Int32))))))
theorem oX3_goThrough {g : PH} {a0 : Nat} {a1 : Nat} {a2 : Int32} {a3 : Int32} {q : (Unit × PH)} (h : fX3_goThrough g a0 a1 a2 a3 = some q) : isO g a0 3 = true := by unfold fX3_goThrough at h; exact (okb_some h).1
theorem hyX3_goThrough : hMet yX3_goThrough RX3 cX3_goThrough 8 none 3 := ⟨wd_881, wd_879, wd_880, wd_3, rfl, by decide +kernel, by decide +kernel, by decide +kernel⟩
set_option maxHeartbeats 4000000 in
set_option maxRecDepth 100000 in
theorem mX3_goThrough (l : Launch) (E : HE) (sz : Nat) {g g' : PH} {a0 : Nat} {a1 : Nat} {a2 : Int32} {a3 : Int32} {r : Unit} (hf : fX3_goThrough g a0 a1 a2 a3 = some (r, g')) : hM l E yX3_goThrough cX3_goThrough 8 none 4 96 0 0 sz g [.ref a0, .ref a1, .int a2, .int a3] none g' := by
  refine hM.of (by decide) (Nat.le_of_ble_eq_true rfl) (fun K hl C hin hsz => ?_)
  subst hl
  subst hsz
  have C : VC K E 8 cX3_goThrough RX3 none := C
  unfold fX3_goThrough at hf
  replace hf := okb_some hf
  obtain ⟨ho, hf⟩ := hf
  refine V.start (L' := [(0, .ref a0), (1, .ref a1), (2, .int a2), (3, .int a3)]) rfl ?_
  refine V.aload_n (pc := 0) C dX3_goThrough_0 0 rfl ?_
  refine V.iload_n (pc := 1) C dX3_goThrough_1 2 rfl ?_
  replace hf := ob_some hf
  obtain ⟨g1, h2, hf⟩ := hf
  refine V.putX (pc := 2) C kX3 (k := 6) (by decide) wd_71 rfl rfl rfl h2 dX3_goThrough_2 ?_
  refine V.aload_n (pc := 5) C dX3_goThrough_5 0 rfl ?_
  refine V.iload_n (pc := 6) C dX3_goThrough_6 3 rfl ?_
  replace hf := ob_some hf
  obtain ⟨g3, h4, hf⟩ := hf
  refine V.putX (pc := 7) C kX3 (k := 7) (by decide) wd_73 rfl rfl rfl h4 dX3_goThrough_7 ?_
  refine V.aload_n (pc := 10) C dX3_goThrough_10 0 rfl ?_
  refine V.iconst (pc := 11) C dX3_goThrough_11 (v := (0 : Int32)) (by decide) ?_
  replace hf := ob_some hf
  obtain ⟨g5, h6, hf⟩ := hf
  refine V.putX (pc := 12) C kX3 (k := 8) (by decide) wd_75 rfl rfl rfl h6 dX3_goThrough_12 ?_
  refine V.aload_n (pc := 15) C dX3_goThrough_15 0 rfl ?_
  refine V.iconst (pc := 16) C dX3_goThrough_16 (v := (0 : Int32)) (by decide) ?_
  replace hf := ob_some hf
  obtain ⟨g7, h8, hf⟩ := hf
  refine V.putX (pc := 17) C kX3 (k := 9) (by decide) wd_77 rfl rfl rfl h8 dX3_goThrough_17 ?_
  refine V.iconst (pc := 20) C dX3_goThrough_20 (v := (0 : Int32)) (by decide) ?_
  refine V.istore (pc := 21) (L' := [(4, .int (0 : Int32)), (0, .ref a0), (1, .ref a1), (2, .int a2), (3, .int a3)]) C dX3_goThrough_21 (by decide) rfl ?_
  refine V.iconst (pc := 23) C dX3_goThrough_23 (v := (0 : Int32)) (by decide) ?_
  refine V.istore (pc := 24) (L' := [(5, .int (0 : Int32)), (4, .int (0 : Int32)), (0, .ref a0), (1, .ref a1), (2, .int a2), (3, .int a3)]) C dX3_goThrough_24 (by decide) rfl ?_
  refine V.sub (L' := [(0, .ref a0), (1, .ref a1), (3, .int a3), (4, .int (0 : Int32)), (5, .int (0 : Int32))]) [2, 3, 5, 1, 0] rfl ?_
  exact bX3_goThrough_26 C  _ _ _ _ _ _ _ hf
theorem dX3_loggedNumber_0 : decode cX3_loggedNumber 0 = .ok (.iload_n 1, 1) := by decide +kernel
theorem dX3_loggedNumber_1 : decode cX3_loggedNumber 1 = .ok (.ifCond .lt 20, 3) := by decide +kernel
theorem dX3_loggedNumber_4 : decode cX3_loggedNumber 4 = .ok (.iload_n 1, 1) := by decide +kernel
theorem dX3_loggedNumber_5 : decode cX3_loggedNumber 5 = .ok (.bipush 60, 2) := by decide +kernel
theorem dX3_loggedNumber_7 : decode cX3_loggedNumber 7 = .ok (.if_icmp .ge 14, 3) := by decide +kernel
theorem dX3_loggedNumber_10 : decode cX3_loggedNumber 10 = .ok (.aload_n 0, 1) := by decide +kernel
theorem dX3_loggedNumber_11 : decode cX3_loggedNumber 11 = .ok (.getfield 47, 3) := by decide +kernel
theorem dX3_loggedNumber_14 : decode cX3_loggedNumber 14 = .ok (.iload_n 1, 1) := by decide +kernel
theorem dX3_loggedNumber_15 : decode cX3_loggedNumber 15 = .ok (.iaload, 1) := by decide +kernel
theorem dX3_loggedNumber_16 : decode cX3_loggedNumber 16 = .ok (.iconst 3, 1) := by decide +kernel
theorem dX3_loggedNumber_17 : decode cX3_loggedNumber 17 = .ok (.ishr, 1) := by decide +kernel
theorem dX3_loggedNumber_18 : decode cX3_loggedNumber 18 = .ok (.goto 4, 3) := by decide +kernel
theorem dX3_loggedNumber_21 : decode cX3_loggedNumber 21 = .ok (.iconst (-1), 1) := by decide +kernel
theorem dX3_loggedNumber_22 : decode cX3_loggedNumber 22 = .ok (.ireturn, 1) := by decide +kernel
def fX3_loggedNumber (g : PH) (a0 : Nat) (a1 : Int32) : Option (Int32 × PH) :=
  okb (isO g a0 3) (if a1 < 0 then (some ((-1 : Int32), g)) else
  (if (60 : Int32) ≤ a1 then (some ((-1 : Int32), g)) else
  ((getR g a0 3 11).bind fun p3 =>
  ((ldI g p3 0 a1).bind fun x5 =>
  (some ((x5 >>> ((3 : Int32) &&& 31)), g))))))
theorem oX3_loggedNumber {g : PH} {a0 : Nat} {a1 : Int32} {q : (Int32 × PH)} (h : fX3_loggedNumber g a0 a1 = some q) : isO g a0 3 = true := by unfold fX3_loggedNumber at h; exact (okb_some h).1
theorem hyX3_loggedNumber : hMet yX3_loggedNumber RX3 cX3_loggedNumber 2 (some .int) 1 := ⟨wd_924, wd_922, wd_923, wd_3, rfl, by decide +kernel, by decide +kernel, by decide +kernel⟩
set_option maxHeartbeats 4000000 in
set_option maxRecDepth 100000 in
theorem mX3_loggedNumber (l : Launch) (E : HE) (sz : Nat) {g g' : PH} {a0 : Nat} {a1 : Int32} {r : Int32} (hf : fX3_loggedNumber g a0 a1 = some (r, g')) : hM l E yX3_loggedNumber cX3_loggedNumber 2 (some .int) 0 0 0 0 sz g [.ref a0, .int a1] (some (.int r)) g' := by
  refine hM.of (by decide) (Nat.le_of_ble_eq_true rfl) (fun K hl C hin hsz => ?_)
  subst hl
  subst hsz
  have C : VC K E 2 cX3_loggedNumber RX3 (some .int) := C
  unfold fX3_loggedNumber at hf
  replace hf := okb_some hf
  obtain ⟨ho, hf⟩ := hf
  refine V.start (L' := [(0, .ref a0), (1, .int a1)]) rfl ?_
  refine V.iload_n (pc := 0) C dX3_loggedNumber_0 1 rfl ?_
  refine V.if_lt (pc := 1) (t := 21) C dX3_loggedNumber_1 (by decide) (fun c1 => ?_) (fun c1 => ?_)
  · replace hf := ite_t c1 hf
    refine V.iconst (pc := 21) C dX3_loggedNumber_21 (v := (-1 : Int32)) (by decide) ?_
    obtain ⟨f1, f2⟩ := fin2 hf
    clear hf
    subst f1
    subst f2
    exact V.iret (pc := 22) C rfl dX3_loggedNumber_22
  replace hf := ite_f c1 hf
  refine V.iload_n (pc := 4) C dX3_loggedNumber_4 1 rfl ?_
  refine V.bipush (pc := 5) C dX3_loggedNumber_5 (v := (60 : Int32)) (by decide) ?_
  refine V.icmp_ge (pc := 7) (t := 21) C dX3_loggedNumber_7 (by decide) (fun c2 => ?_) (fun c2 => ?_)
  · replace hf := ite_t c2 hf
    refine V.iconst (pc := 21) C dX3_loggedNumber_21 (v := (-1 : Int32)) (by decide) ?_
    obtain ⟨f1, f2⟩ := fin2 hf
    clear hf
    subst f1
    subst f2
    exact V.iret (pc := 22) C rfl dX3_loggedNumber_22
  replace hf := ite_f c2 hf
  refine V.aload_n (pc := 10) C dX3_loggedNumber_10 0 rfl ?_
  replace hf := ob_some hf
  obtain ⟨p3, h4, hf⟩ := hf
  refine V.getR (pc := 11) C kX3 (k := 11) (by decide) wd_80 h4 dX3_loggedNumber_11 ?_
  refine V.iload_n (pc := 14) C dX3_loggedNumber_14 1 rfl ?_
  replace hf := ob_some hf
  obtain ⟨x5, h6, hf⟩ := hf
  refine V.iald (pc := 15) C h6 dX3_loggedNumber_15 ?_
  refine V.iconst (pc := 16) C dX3_loggedNumber_16 (v := (3 : Int32)) (by decide) ?_
  refine V.ishr (pc := 17) C dX3_loggedNumber_17 ?_
  refine V.goto (pc := 18) (t := 22) C dX3_loggedNumber_18 (by decide) ?_
  obtain ⟨f1, f2⟩ := fin2 hf
  clear hf
  subst f1
  subst f2
  exact V.iret (pc := 22) C rfl dX3_loggedNumber_22
theorem dX3_loggedAddress_0 : decode cX3_loggedAddress 0 = .ok (.iload_n 1, 1) := by decide +kernel
theorem dX3_loggedAddress_1 : decode cX3_loggedAddress 1 = .ok (.ifCond .lt 21, 3) := by decide +kernel
theorem dX3_loggedAddress_4 : decode cX3_loggedAddress 4 = .ok (.iload_n 1, 1) := by decide +kernel
theorem dX3_loggedAddress_5 : decode cX3_loggedAddress 5 = .ok (.bipush 60, 2) := by decide +kernel
theorem dX3_loggedAddress_7 : decode cX3_loggedAddress 7 = .ok (.if_icmp .ge 15, 3) := by decide +kernel
theorem dX3_loggedAddress_10 : decode cX3_loggedAddress 10 = .ok (.aload_n 0, 1) := by decide +kernel
theorem dX3_loggedAddress_11 : decode cX3_loggedAddress 11 = .ok (.getfield 47, 3) := by decide +kernel
theorem dX3_loggedAddress_14 : decode cX3_loggedAddress 14 = .ok (.iload_n 1, 1) := by decide +kernel
theorem dX3_loggedAddress_15 : decode cX3_loggedAddress 15 = .ok (.iaload, 1) := by decide +kernel
theorem dX3_loggedAddress_16 : decode cX3_loggedAddress 16 = .ok (.bipush 7, 2) := by decide +kernel
theorem dX3_loggedAddress_18 : decode cX3_loggedAddress 18 = .ok (.iand, 1) := by decide +kernel
theorem dX3_loggedAddress_19 : decode cX3_loggedAddress 19 = .ok (.goto 4, 3) := by decide +kernel
theorem dX3_loggedAddress_22 : decode cX3_loggedAddress 22 = .ok (.iconst (-1), 1) := by decide +kernel
theorem dX3_loggedAddress_23 : decode cX3_loggedAddress 23 = .ok (.ireturn, 1) := by decide +kernel
def fX3_loggedAddress (g : PH) (a0 : Nat) (a1 : Int32) : Option (Int32 × PH) :=
  okb (isO g a0 3) (if a1 < 0 then (some ((-1 : Int32), g)) else
  (if (60 : Int32) ≤ a1 then (some ((-1 : Int32), g)) else
  ((getR g a0 3 11).bind fun p3 =>
  ((ldI g p3 0 a1).bind fun x5 =>
  (some ((x5 &&& (7 : Int32)), g))))))
theorem oX3_loggedAddress {g : PH} {a0 : Nat} {a1 : Int32} {q : (Int32 × PH)} (h : fX3_loggedAddress g a0 a1 = some q) : isO g a0 3 = true := by unfold fX3_loggedAddress at h; exact (okb_some h).1
theorem hyX3_loggedAddress : hMet yX3_loggedAddress RX3 cX3_loggedAddress 2 (some .int) 1 := ⟨wd_928, wd_926, wd_927, wd_3, rfl, by decide +kernel, by decide +kernel, by decide +kernel⟩
set_option maxHeartbeats 4000000 in
set_option maxRecDepth 100000 in
theorem mX3_loggedAddress (l : Launch) (E : HE) (sz : Nat) {g g' : PH} {a0 : Nat} {a1 : Int32} {r : Int32} (hf : fX3_loggedAddress g a0 a1 = some (r, g')) : hM l E yX3_loggedAddress cX3_loggedAddress 2 (some .int) 0 0 0 0 sz g [.ref a0, .int a1] (some (.int r)) g' := by
  refine hM.of (by decide) (Nat.le_of_ble_eq_true rfl) (fun K hl C hin hsz => ?_)
  subst hl
  subst hsz
  have C : VC K E 2 cX3_loggedAddress RX3 (some .int) := C
  unfold fX3_loggedAddress at hf
  replace hf := okb_some hf
  obtain ⟨ho, hf⟩ := hf
  refine V.start (L' := [(0, .ref a0), (1, .int a1)]) rfl ?_
  refine V.iload_n (pc := 0) C dX3_loggedAddress_0 1 rfl ?_
  refine V.if_lt (pc := 1) (t := 22) C dX3_loggedAddress_1 (by decide) (fun c1 => ?_) (fun c1 => ?_)
  · replace hf := ite_t c1 hf
    refine V.iconst (pc := 22) C dX3_loggedAddress_22 (v := (-1 : Int32)) (by decide) ?_
    obtain ⟨f1, f2⟩ := fin2 hf
    clear hf
    subst f1
    subst f2
    exact V.iret (pc := 23) C rfl dX3_loggedAddress_23
  replace hf := ite_f c1 hf
  refine V.iload_n (pc := 4) C dX3_loggedAddress_4 1 rfl ?_
  refine V.bipush (pc := 5) C dX3_loggedAddress_5 (v := (60 : Int32)) (by decide) ?_
  refine V.icmp_ge (pc := 7) (t := 22) C dX3_loggedAddress_7 (by decide) (fun c2 => ?_) (fun c2 => ?_)
  · replace hf := ite_t c2 hf
    refine V.iconst (pc := 22) C dX3_loggedAddress_22 (v := (-1 : Int32)) (by decide) ?_
    obtain ⟨f1, f2⟩ := fin2 hf
    clear hf
    subst f1
    subst f2
    exact V.iret (pc := 23) C rfl dX3_loggedAddress_23
  replace hf := ite_f c2 hf
  refine V.aload_n (pc := 10) C dX3_loggedAddress_10 0 rfl ?_
  replace hf := ob_some hf
  obtain ⟨p3, h4, hf⟩ := hf
  refine V.getR (pc := 11) C kX3 (k := 11) (by decide) wd_80 h4 dX3_loggedAddress_11 ?_
  refine V.iload_n (pc := 14) C dX3_loggedAddress_14 1 rfl ?_
  replace hf := ob_some hf
  obtain ⟨x5, h6, hf⟩ := hf
  refine V.iald (pc := 15) C h6 dX3_loggedAddress_15 ?_
  refine V.bipush (pc := 16) C dX3_loggedAddress_16 (v := (7 : Int32)) (by decide) ?_
  refine V.iand (pc := 18) C dX3_loggedAddress_18 ?_
  refine V.goto (pc := 19) (t := 23) C dX3_loggedAddress_19 (by decide) ?_
  obtain ⟨f1, f2⟩ := fin2 hf
  clear hf
  subst f1
  subst f2
  exact V.iret (pc := 23) C rfl dX3_loggedAddress_23
theorem dX3_hasLogOf_0 : decode cX3_hasLogOf 0 = .ok (.aload_n 1, 1) := by decide +kernel
theorem dX3_hasLogOf_1 : decode cX3_hasLogOf 1 = .ok (.getfield 129, 3) := by decide +kernel
theorem dX3_hasLogOf_4 : decode cX3_hasLogOf 4 = .ok (.aload_n 0, 1) := by decide +kernel
theorem dX3_hasLogOf_5 : decode cX3_hasLogOf 5 = .ok (.getfield 37, 3) := by decide +kernel
theorem dX3_hasLogOf_8 : decode cX3_hasLogOf 8 = .ok (.if_icmp .eq 5, 3) := by decide +kernel
theorem dX3_hasLogOf_11 : decode cX3_hasLogOf 11 = .ok (.iconst 0, 1) := by decide +kernel
theorem dX3_hasLogOf_12 : decode cX3_hasLogOf 12 = .ok (.ireturn, 1) := by decide +kernel
theorem dX3_hasLogOf_13 : decode cX3_hasLogOf 13 = .ok (.iconst 0, 1) := by decide +kernel
theorem dX3_hasLogOf_14 : decode cX3_hasLogOf 14 = .ok (.istore_n 2, 1) := by decide +kernel
theorem dX3_hasLogOf_15 : decode cX3_hasLogOf 15 = .ok (.iload_n 2, 1) := by decide +kernel
theorem dX3_hasLogOf_16 : decode cX3_hasLogOf 16 = .ok (.aload_n 0, 1) := by decide +kernel
theorem dX3_hasLogOf_17 : decode cX3_hasLogOf 17 = .ok (.getfield 40, 3) := by decide +kernel
theorem dX3_hasLogOf_20 : decode cX3_hasLogOf 20 = .ok (.if_icmp .ge 24, 3) := by decide +kernel
theorem dX3_hasLogOf_23 : decode cX3_hasLogOf 23 = .ok (.aload_n 0, 1) := by decide +kernel
theorem dX3_hasLogOf_24 : decode cX3_hasLogOf 24 = .ok (.iload_n 2, 1) := by decide +kernel
theorem dX3_hasLogOf_25 : decode cX3_hasLogOf 25 = .ok (.invokevirtual 132, 3) := by decide +kernel
theorem dX3_hasLogOf_28 : decode cX3_hasLogOf 28 = .ok (.aload_n 1, 1) := by decide +kernel
theorem dX3_hasLogOf_29 : decode cX3_hasLogOf 29 = .ok (.iload_n 2, 1) := by decide +kernel
theorem dX3_hasLogOf_30 : decode cX3_hasLogOf 30 = .ok (.invokevirtual 135, 3) := by decide +kernel
theorem dX3_hasLogOf_33 : decode cX3_hasLogOf 33 = .ok (.if_icmp .eq 5, 3) := by decide +kernel
theorem dX3_hasLogOf_36 : decode cX3_hasLogOf 36 = .ok (.iconst 0, 1) := by decide +kernel
theorem dX3_hasLogOf_37 : decode cX3_hasLogOf 37 = .ok (.ireturn, 1) := by decide +kernel
theorem dX3_hasLogOf_38 : decode cX3_hasLogOf 38 = .ok (.iinc 2 1, 3) := by decide +kernel
theorem dX3_hasLogOf_41 : decode cX3_hasLogOf 41 = .ok (.goto (-26), 3) := by decide +kernel
theorem dX3_hasLogOf_44 : decode cX3_hasLogOf 44 = .ok (.iconst 1, 1) := by decide +kernel
theorem dX3_hasLogOf_45 : decode cX3_hasLogOf 45 = .ok (.ireturn, 1) := by decide +kernel
def fX3_hasLogOf_15  : Nat → PH → Nat → Nat → Int32 → Option (Int32 × PH)
  | 0, _, _, _, _ => none
  | n + 1, g, v0, v1, v2 =>
  (getI g v0 3 9).bind fun x1 =>
  (if x1 ≤ v2 then (some ((1 : Int32), g)) else
  ((fX3_loggedNumber g v0 v2).bind fun q4 =>
  ((fX7_numberAt q4.2 v1 v2).bind fun q6 =>
  (if q4.1 = q6.1 then (fX3_hasLogOf_15 n q6.2 v0 v1 (v2 + (1 : Int32))) else
  (some ((0 : Int32), q6.2))))))
set_option maxHeartbeats 4000000 in
set_option maxRecDepth 100000 in
theorem bX3_hasLogOf_15 {K : HK} {E : HE} {r : Int32} {g' : PH}  (C : VC K E 3 cX3_hasLogOf RX3 (some .boolean))  : ∀ (n : Nat) (g : PH) (v0 : Nat) (v1 : Nat) (v2 : Int32), fX3_hasLogOf_15  n g v0 v1 v2 = some (r, g') → V K E (hRm 1 21 0 0) 3 (hZ K E (some (.int r)) g' 0 0) 0 0 (kS K) g 15 [(0, .ref v0), (1, .ref v1), (2, .int v2)] [] := by
  intro n
  induction n with
  | zero =>
    intro g v0 v1 v2 hf
    rw [fX3_hasLogOf_15] at hf
    cases hf
  | succ n ih =>
    intro g v0 v1 v2 hf
    rw [fX3_hasLogOf_15] at hf
    refine V.iload_n (pc := 15) C dX3_hasLogOf_15 2 rfl ?_
    refine V.aload_n (pc := 16) C dX3_hasLogOf_16 0 rfl ?_
    replace hf := ob_some hf
    obtain ⟨x1, h2, hf⟩ := hf
    refine V.getI (pc := 17) C kX3 (k := 9) (by decide) wd_77 h2 dX3_hasLogOf_17 ?_
    refine V.icmp_ge (pc := 20) (t := 44) C dX3_hasLogOf_20 (by decide) (fun c3 => ?_) (fun c3 => ?_)
    · replace hf := ite_t c3 hf
      refine V.iconst (pc := 44) C dX3_hasLogOf_44 (v := (1 : Int32)) (by decide) ?_
      obtain ⟨f1, f2⟩ := fin2 hf
      clear hf
      subst f1
      subst f2
      exact V.zret (pc := 45) C rfl rfl dX3_hasLogOf_45
    replace hf := ite_f c3 hf
    refine V.aload_n (pc := 23) C dX3_hasLogOf_23 0 rfl ?_
    refine V.iload_n (pc := 24) C dX3_hasLogOf_24 2 rfl ?_
    replace hf := ob_some hf
    obtain ⟨q4, h5, hf⟩ := hf
    refine V.callV0i (pc := 25) C hyX3_loggedNumber wd_976 (mX3_loggedNumber (r := q4.1) (g' := q4.2) K.2.1 E (kS K) h5) rfl rfl rfl (oX3_loggedNumber h5) ⟨Nat.le_of_ble_eq_true rfl, Nat.le_of_ble_eq_true rfl⟩ (Nat.le_of_ble_eq_true rfl) dX3_hasLogOf_25 ⟨Nat.zero_le _, Nat.zero_le _⟩ rfl ?_
    refine V.aload_n (pc := 28) C dX3_hasLogOf_28 1 rfl ?_
    refine V.iload_n (pc := 29) C dX3_hasLogOf_29 2 rfl ?_
    replace hf := ob_some hf
    obtain ⟨q6, h7, hf⟩ := hf
    refine V.callV0i (pc := 30) C hyX7_numberAt wd_977 (mX7_numberAt (r := q6.1) (g' := q6.2) K.2.1 E (kS K) h7) rfl rfl rfl (oX7_numberAt h7) ⟨Nat.le_of_ble_eq_true rfl, Nat.le_of_ble_eq_true rfl⟩ (Nat.le_of_ble_eq_true rfl) dX3_hasLogOf_30 ⟨Nat.zero_le _, Nat.zero_le _⟩ rfl ?_
    refine V.icmp_eq (pc := 33) (t := 38) C dX3_hasLogOf_33 (by decide) (fun c8 => ?_) (fun c8 => ?_)
    · replace hf := ite_t c8 hf
      refine V.iinc (pc := 38) (v := (v2 + (1 : Int32))) (L' := [(2, .int (v2 + (1 : Int32))), (0, .ref v0), (1, .ref v1)]) C dX3_hasLogOf_38 2 rfl rfl (by decide) rfl ?_
      refine V.goto (pc := 41) (t := 15) C dX3_hasLogOf_41 (by decide) ?_
      refine V.sub (L' := [(0, .ref v0), (1, .ref v1), (2, .int (v2 + (1 : Int32)))]) [1, 2, 0] rfl ?_
      exact ih _ _ _ _ hf
    replace hf := ite_f c8 hf
    refine V.iconst (pc := 36) C dX3_hasLogOf_36 (v := (0 : Int32)) (by decide) ?_
    obtain ⟨f1, f2⟩ := fin2 hf
    clear hf
    subst f1
    subst f2
    exact V.zret (pc := 37) C rfl rfl dX3_hasLogOf_37
def fX3_hasLogOf (g : PH) (a0 : Nat) (a1 : Nat) : Option (Int32 × PH) :=
  okb (isO g a0 3) ((getI g a1 7 2).bind fun x1 =>
  ((getI g a0 3 8).bind fun x3 =>
  (if x1 = x3 then (fX3_hasLogOf_15 FUEL g a0 a1 (0 : Int32)) else
  (some ((0 : Int32), g)))))
theorem oX3_hasLogOf {g : PH} {a0 : Nat} {a1 : Nat} {q : (Int32 × PH)} (h : fX3_hasLogOf g a0 a1 = some q) : isO g a0 3 = true := by unfold fX3_hasLogOf at h; exact (okb_some h).1
theorem hyX3_hasLogOf : hMet yX3_hasLogOf RX3 cX3_hasLogOf 3 (some .boolean) 1 := ⟨wd_975, wd_973, wd_974, wd_3, rfl, by decide +kernel, by decide +kernel, by decide +kernel⟩
set_option maxHeartbeats 4000000 in
set_option maxRecDepth 100000 in
theorem mX3_hasLogOf (l : Launch) (E : HE) (sz : Nat) {g g' : PH} {a0 : Nat} {a1 : Nat} {r : Int32} (hf : fX3_hasLogOf g a0 a1 = some (r, g')) : hM l E yX3_hasLogOf cX3_hasLogOf 3 (some .boolean) 1 21 0 0 sz g [.ref a0, .ref a1] (some (.int r)) g' := by
  refine hM.of (by decide) (Nat.le_of_ble_eq_true rfl) (fun K hl C hin hsz => ?_)
  subst hl
  subst hsz
  have C : VC K E 3 cX3_hasLogOf RX3 (some .boolean) := C
  unfold fX3_hasLogOf at hf
  replace hf := okb_some hf
  obtain ⟨ho, hf⟩ := hf
  refine V.start (L' := [(0, .ref a0), (1, .ref a1)]) rfl ?_
  refine V.aload_n (pc := 0) C dX3_hasLogOf_0 1 rfl ?_
  replace hf := ob_some hf
  obtain ⟨x1, h2, hf⟩ := hf
  refine V.getI (pc := 1) C kX7 (k := 2) (by decide) wd_138 h2 dX3_hasLogOf_1 ?_
  refine V.aload_n (pc := 4) C dX3_hasLogOf_4 0 rfl ?_
  replace hf := ob_some hf
  obtain ⟨x3, h4, hf⟩ := hf
  refine V.getI (pc := 5) C kX3 (k := 8) (by decide) wd_75 h4 dX3_hasLogOf_5 ?_
  refine V.icmp_eq (pc := 8) (t := 13) C dX3_hasLogOf_8 (by decide) (fun c5 => ?_) (fun c5 => ?_)
  · replace hf := ite_t c5 hf
    refine V.iconst (pc := 13) C dX3_hasLogOf_13 (v := (0 : Int32)) (by decide) ?_
    refine V.istore_n (pc := 14) (L' := [(2, .int (0 : Int32)), (0, .ref a0), (1, .ref a1)]) C dX3_hasLogOf_14 (by decide) rfl ?_
    refine V.sub (L' := [(0, .ref a0), (1, .ref a1), (2, .int (0 : Int32))]) [1, 2, 0] rfl ?_
    exact bX3_hasLogOf_15 C  _ _ _ _ _ hf
  replace hf := ite_f c5 hf
  refine V.iconst (pc := 11) C dX3_hasLogOf_11 (v := (0 : Int32)) (by decide) ?_
  obtain ⟨f1, f2⟩ := fin2 hf
  clear hf
  subst f1
  subst f2
  exact V.zret (pc := 12) C rfl rfl dX3_hasLogOf_12
