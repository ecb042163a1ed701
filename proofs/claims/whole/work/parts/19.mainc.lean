theorem dX8_covers_0 : decode cX8_covers 0 = .ok (.aload_n 0, 1) := by decide +kernel
theorem dX8_covers_1 : decode cX8_covers 1 = .ok (.iload_n 1, 1) := by decide +kernel
theorem dX8_covers_2 : decode cX8_covers 2 = .ok (.invokevirtual 112, 3) := by decide +kernel
theorem dX8_covers_5 : decode cX8_covers 5 = .ok (.ifnonnull 5, 3) := by decide +kernel
theorem dX8_covers_8 : decode cX8_covers 8 = .ok (.iconst (-1), 1) := by decide +kernel
theorem dX8_covers_9 : decode cX8_covers 9 = .ok (.ireturn, 1) := by decide +kernel
theorem dX8_covers_10 : decode cX8_covers 10 = .ok (.iconst 0, 1) := by decide +kernel
theorem dX8_covers_11 : decode cX8_covers 11 = .ok (.istore_n 2, 1) := by decide +kernel
theorem dX8_covers_12 : decode cX8_covers 12 = .ok (.iconst 0, 1) := by decide +kernel
theorem dX8_covers_13 : decode cX8_covers 13 = .ok (.istore_n 3, 1) := by decide +kernel
theorem dX8_covers_14 : decode cX8_covers 14 = .ok (.iload_n 3, 1) := by decide +kernel
theorem dX8_covers_15 : decode cX8_covers 15 = .ok (.aload_n 0, 1) := by decide +kernel
theorem dX8_covers_16 : decode cX8_covers 16 = .ok (.getfield 22, 3) := by decide +kernel
theorem dX8_covers_19 : decode cX8_covers 19 = .ok (.if_icmp .ge 25, 3) := by decide +kernel
theorem dX8_covers_22 : decode cX8_covers 22 = .ok (.aload_n 0, 1) := by decide +kernel
theorem dX8_covers_23 : decode cX8_covers 23 = .ok (.iload_n 1, 1) := by decide +kernel
theorem dX8_covers_24 : decode cX8_covers 24 = .ok (.iload_n 3, 1) := by decide +kernel
theorem dX8_covers_25 : decode cX8_covers 25 = .ok (.invokevirtual 146, 3) := by decide +kernel
theorem dX8_covers_28 : decode cX8_covers 28 = .ok (.iconst 3, 1) := by decide +kernel
theorem dX8_covers_29 : decode cX8_covers 29 = .ok (.if_icmp .ne 9, 3) := by decide +kernel
theorem dX8_covers_32 : decode cX8_covers 32 = .ok (.iload_n 2, 1) := by decide +kernel
theorem dX8_covers_33 : decode cX8_covers 33 = .ok (.iconst 1, 1) := by decide +kernel
theorem dX8_covers_34 : decode cX8_covers 34 = .ok (.iload_n 3, 1) := by decide +kernel
theorem dX8_covers_35 : decode cX8_covers 35 = .ok (.ishl, 1) := by decide +kernel
theorem dX8_covers_36 : decode cX8_covers 36 = .ok (.ior, 1) := by decide +kernel
theorem dX8_covers_37 : decode cX8_covers 37 = .ok (.istore_n 2, 1) := by decide +kernel
theorem dX8_covers_38 : decode cX8_covers 38 = .ok (.iinc 3 1, 3) := by decide +kernel
theorem dX8_covers_41 : decode cX8_covers 41 = .ok (.goto (-27), 3) := by decide +kernel
theorem dX8_covers_44 : decode cX8_covers 44 = .ok (.iload_n 2, 1) := by decide +kernel
theorem dX8_covers_45 : decode cX8_covers 45 = .ok (.ireturn, 1) := by decide +kernel
def fX8_covers_38 (k14 : PH → Nat → Int32 → Int32 → Int32 → Option (Int32 × PH)) (g : PH) (v0 : Nat) (v1 : Int32) (v2 : Int32) (v3 : Int32) : Option (Int32 × PH) :=
  k14 g v0 v1 v2 (v3 + (1 : Int32))
set_option maxHeartbeats 4000000 in
set_option maxRecDepth 100000 in
theorem bX8_covers_38 {K : HK} {E : HE} {r : Int32} {g' : PH} {k14 : PH → Nat → Int32 → Int32 → Int32 → Option (Int32 × PH)} (C : VC K E 4 cX8_covers RX8 (some .int)) (hk14 : ∀ (g : PH) (v0 : Nat) (v1 : Int32) (v2 : Int32) (v3 : Int32), k14 g v0 v1 v2 v3 = some (r, g') → V K E (hRm 6 156 0 0) 4 (hZ K E (some (.int r)) g' 0 0) 0 0 (kS K) g 14 [(0, .ref v0), (1, .int v1), (2, .int v2), (3, .int v3)] []) {g : PH} {v0 : Nat} {v1 : Int32} {v2 : Int32} {v3 : Int32} (hf : fX8_covers_38 k14 g v0 v1 v2 v3 = some (r, g')) : V K E (hRm 6 156 0 0) 4 (hZ K E (some (.int r)) g' 0 0) 0 0 (kS K) g 38 [(0, .ref v0), (1, .int v1), (2, .int v2), (3, .int v3)] [] := by
  unfold fX8_covers_38 at hf
  refine V.iinc (pc := 38) (v := (v3 + (1 : Int32))) (L' := [(3, .int (v3 + (1 : Int32))), (0, .ref v0), (1, .int v1), (2, .int v2)]) C dX8_covers_38 3 rfl rfl (by decide) rfl ?_
  refine V.goto (pc := 41) (t := 14) C dX8_covers_41 (by decide) ?_
  refine V.sub (L' := [(0, .ref v0), (1, .int v1), (2, .int v2), (3, .int (v3 + (1 : Int32)))]) [1, 2, 3, 0] rfl ?_
  exact hk14 _ _ _ _ _ hf
def fX8_covers_14  : Nat → PH → Nat → Int32 → Int32 → Int32 → Option (Int32 × PH)
  | 0, _, _, _, _, _ => none
  | n + 1, g, v0, v1, v2, v3 =>
  (getI g v0 8 2).bind fun x1 =>
  (if x1 ≤ v3 then (some (v2, g)) else
  ((fX8_bothOrders g v0 v1 v3).bind fun q4 =>
  (if q4.1 = (3 : Int32) then (fX8_covers_38 (fX8_covers_14 n) q4.2 v0 v1 (v2 ||| ((1 : Int32) <<< (v3 &&& 31))) v3) else
  (fX8_covers_38 (fX8_covers_14 n) q4.2 v0 v1 v2 v3))))
set_option maxHeartbeats 4000000 in
set_option maxRecDepth 100000 in
theorem bX8_covers_14 {K : HK} {E : HE} {r : Int32} {g' : PH}  (C : VC K E 4 cX8_covers RX8 (some .int))  : ∀ (n : Nat) (g : PH) (v0 : Nat) (v1 : Int32) (v2 : Int32) (v3 : Int32), fX8_covers_14  n g v0 v1 v2 v3 = some (r, g') → V K E (hRm 6 156 0 0) 4 (hZ K E (some (.int r)) g' 0 0) 0 0 (kS K) g 14 [(0, .ref v0), (1, .int v1), (2, .int v2), (3, .int v3)] [] := by
  intro n
  induction n with
  | zero =>
    intro g v0 v1 v2 v3 hf
    rw [fX8_covers_14] at hf
    cases hf
  | succ n ih =>
    intro g v0 v1 v2 v3 hf
    rw [fX8_covers_14] at hf
    refine V.iload_n (pc := 14) C dX8_covers_14 3 rfl ?_
    refine V.aload_n (pc := 15) C dX8_covers_15 0 rfl ?_
    replace hf := ob_some hf
    obtain ⟨x1, h2, hf⟩ := hf
    refine V.getI (pc := 16) C kX8 (k := 2) (by decide) wd_190 h2 dX8_covers_16 ?_
    refine V.icmp_ge (pc := 19) (t := 44) C dX8_covers_19 (by decide) (fun c3 => ?_) (fun c3 => ?_)
    · replace hf := ite_t c3 hf
      refine V.iload_n (pc := 44) C dX8_covers_44 2 rfl ?_
      obtain ⟨f1, f2⟩ := fin2 hf
      clear hf
      subst f1
      subst f2
      exact V.iret (pc := 45) C rfl dX8_covers_45
    replace hf := ite_f c3 hf
    refine V.aload_n (pc := 22) C dX8_covers_22 0 rfl ?_
    refine V.iload_n (pc := 23) C dX8_covers_23 1 rfl ?_
    refine V.iload_n (pc := 24) C dX8_covers_24 3 rfl ?_
    replace hf := ob_some hf
    obtain ⟨q4, h5, hf⟩ := hf
    refine V.callV0i (pc := 25) C hyX8_bothOrders wd_574 (mX8_bothOrders (r := q4.1) (g' := q4.2) K.2.1 E (kS K) h5) rfl rfl rfl (oX8_bothOrders h5) ⟨Nat.le_of_ble_eq_true rfl, Nat.le_of_ble_eq_true rfl⟩ (Nat.le_of_ble_eq_true rfl) dX8_covers_25 ⟨Nat.zero_le _, Nat.zero_le _⟩ rfl ?_
    refine V.iconst (pc := 28) C dX8_covers_28 (v := (3 : Int32)) (by decide) ?_
    refine V.icmp_ne (pc := 29) (t := 38) C dX8_covers_29 (by decide) (fun c6 => ?_) (fun c6 => ?_)
    · replace hf := ite_f c6 hf
      refine V.sub (L' := [(0, .ref v0), (1, .int v1), (2, .int v2), (3, .int v3)]) [0, 1, 2, 3] rfl ?_
      exact bX8_covers_38 C ih hf
    replace hf := ite_t c6 hf
    refine V.iload_n (pc := 32) C dX8_covers_32 2 rfl ?_
    refine V.iconst (pc := 33) C dX8_covers_33 (v := (1 : Int32)) (by decide) ?_
    refine V.iload_n (pc := 34) C dX8_covers_34 3 rfl ?_
    refine V.ishl (pc := 35) C dX8_covers_35 ?_
    refine V.ior (pc := 36) C dX8_covers_36 ?_
    refine V.istore_n (pc := 37) (L' := [(2, .int (v2 ||| ((1 : Int32) <<< (v3 &&& 31)))), (0, .ref v0), (1, .int v1), (3, .int v3)]) C dX8_covers_37 (by decide) rfl ?_
    refine V.sub (L' := [(0, .ref v0), (1, .int v1), (2, .int (v2 ||| ((1 : Int32) <<< (v3 &&& 31)))), (3, .int v3)]) [1, 2, 0, 3] rfl ?_
    exact bX8_covers_38 C ih hf
def fX8_covers (g : PH) (a0 : Nat) (a1 : Int32) : Option (Int32 × PH) :=
  okb (isO g a0 8) ((fX8_marchAt g a0 a1).bind fun (z2, g3) =>
  (z2.elim (some ((-1 : Int32), g3)) (fun p5 =>
  fX8_covers_14 FUEL g3 a0 a1 (0 : Int32) (0 : Int32))))
theorem oX8_covers {g : PH} {a0 : Nat} {a1 : Int32} {q : (Int32 × PH)} (h : fX8_covers g a0 a1 = some q) : isO g a0 8 = true := by unfold fX8_covers at h; exact (okb_some h).1
theorem hyX8_covers : hMet yX8_covers RX8 cX8_covers 4 (some .int) 1 := ⟨wd_670, wd_668, wd_669, wd_1, rfl, by decide +kernel, by decide +kernel, by decide +kernel⟩
set_option maxHeartbeats 4000000 in
set_option maxRecDepth 100000 in
theorem mX8_covers (l : Launch) (E : HE) (sz : Nat) {g g' : PH} {a0 : Nat} {a1 : Int32} {r : Int32} (hf : fX8_covers g a0 a1 = some (r, g')) : hM l E yX8_covers cX8_covers 4 (some .int) 6 156 0 0 sz g [.ref a0, .int a1] (some (.int r)) g' := by
  refine hM.of (by decide) (Nat.le_of_ble_eq_true rfl) (fun K hl C hin hsz => ?_)
  subst hl
  subst hsz
  have C : VC K E 4 cX8_covers RX8 (some .int) := C
  unfold fX8_covers at hf
  replace hf := okb_some hf
  obtain ⟨ho, hf⟩ := hf
  refine V.start (L' := [(0, .ref a0), (1, .int a1)]) rfl ?_
  refine V.aload_n (pc := 0) C dX8_covers_0 0 rfl ?_
  refine V.iload_n (pc := 1) C dX8_covers_1 1 rfl ?_
  replace hf := ob_some hf
  obtain ⟨⟨z2, g3⟩, h4, hf⟩ := hf
  dsimp only at hf
  refine V.callV0q (pc := 2) C hyX8_marchAt wd_549 (mX8_marchAt (r := z2) (g' := g3) K.2.1 E (kS K) h4) rfl rfl rfl (oX8_marchAt h4) ⟨Nat.le_of_ble_eq_true rfl, Nat.le_of_ble_eq_true rfl⟩ (Nat.le_of_ble_eq_true rfl) dX8_covers_2 ⟨Nat.zero_le _, Nat.zero_le _⟩ rfl ?_
  rcases z2 with _ | p5
  · refine V.ifnonnullN (pc := 5) C dX8_covers_5 ?_
    refine V.iconst (pc := 8) C dX8_covers_8 (v := (-1 : Int32)) (by decide) ?_
    obtain ⟨f1, f2⟩ := fin2 hf
    clear hf
    subst f1
    subst f2
    exact V.iret (pc := 9) C rfl dX8_covers_9
  refine V.ifnonnull (pc := 5) (t := 10) C dX8_covers_5 (by decide) ?_
  refine V.iconst (pc := 10) C dX8_covers_10 (v := (0 : Int32)) (by decide) ?_
  refine V.istore_n (pc := 11) (L' := [(2, .int (0 : Int32)), (0, .ref a0), (1, .int a1)]) C dX8_covers_11 (by decide) rfl ?_
  refine V.iconst (pc := 12) C dX8_covers_12 (v := (0 : Int32)) (by decide) ?_
  refine V.istore_n (pc := 13) (L' := [(3, .int (0 : Int32)), (2, .int (0 : Int32)), (0, .ref a0), (1, .int a1)]) C dX8_covers_13 (by decide) rfl ?_
  refine V.sub (L' := [(0, .ref a0), (1, .int a1), (2, .int (0 : Int32)), (3, .int (0 : Int32))]) [2, 3, 1, 0] rfl ?_
  exact bX8_covers_14 C  _ _ _ _ _ _ hf
theorem dX8_areKinds_0 : decode cX8_areKinds 0 = .ok (.iload_n 1, 1) := by decide +kernel
theorem dX8_areKinds_1 : decode cX8_areKinds 1 = .ok (.ifCond .lt 17, 3) := by decide +kernel
theorem dX8_areKinds_4 : decode cX8_areKinds 4 = .ok (.iload_n 1, 1) := by decide +kernel
theorem dX8_areKinds_5 : decode cX8_areKinds 5 = .ok (.iconst 1, 1) := by decide +kernel
theorem dX8_areKinds_6 : decode cX8_areKinds 6 = .ok (.aload_n 0, 1) := by decide +kernel
theorem dX8_areKinds_7 : decode cX8_areKinds 7 = .ok (.getfield 22, 3) := by decide +kernel
theorem dX8_areKinds_10 : decode cX8_areKinds 10 = .ok (.ishl, 1) := by decide +kernel
theorem dX8_areKinds_11 : decode cX8_areKinds 11 = .ok (.if_icmp .ge 7, 3) := by decide +kernel
theorem dX8_areKinds_14 : decode cX8_areKinds 14 = .ok (.iconst 1, 1) := by decide +kernel
theorem dX8_areKinds_15 : decode cX8_areKinds 15 = .ok (.goto 4, 3) := by decide +kernel
theorem dX8_areKinds_18 : decode cX8_areKinds 18 = .ok (.iconst 0, 1) := by decide +kernel
theorem dX8_areKinds_19 : decode cX8_areKinds 19 = .ok (.ireturn, 1) := by decide +kernel
def fX8_areKinds (g : PH) (a0 : Nat) (a1 : Int32) : Option (Int32 × PH) :=
  okb (isO g a0 8) (if a1 < 0 then (some ((0 : Int32), g)) else
  ((getI g a0 8 2).bind fun x2 =>
  (if ((1 : Int32) <<< (x2 &&& 31)) ≤ a1 then (some ((0 : Int32), g)) else
  (some ((1 : Int32), g)))))
theorem oX8_areKinds {g : PH} {a0 : Nat} {a1 : Int32} {q : (Int32 × PH)} (h : fX8_areKinds g a0 a1 = some q) : isO g a0 8 = true := by unfold fX8_areKinds at h; exact (okb_some h).1
theorem hyX8_areKinds : hMet yX8_areKinds RX8 cX8_areKinds 2 (some .boolean) 1 := ⟨wd_678, wd_677, ws_27, wd_1, rfl, by decide +kernel, by decide +kernel, by decide +kernel⟩
set_option maxHeartbeats 4000000 in
set_option maxRecDepth 100000 in
theorem mX8_areKinds (l : Launch) (E : HE) (sz : Nat) {g g' : PH} {a0 : Nat} {a1 : Int32} {r : Int32} (hf : fX8_areKinds g a0 a1 = some (r, g')) : hM l E yX8_areKinds cX8_areKinds 2 (some .boolean) 0 0 0 0 sz g [.ref a0, .int a1] (some (.int r)) g' := by
  refine hM.of (by decide) (Nat.le_of_ble_eq_true rfl) (fun K hl C hin hsz => ?_)
  subst hl
  subst hsz
  have C : VC K E 2 cX8_areKinds RX8 (some .boolean) := C
  unfold fX8_areKinds at hf
  replace hf := okb_some hf
  obtain ⟨ho, hf⟩ := hf
  refine V.start (L' := [(0, .ref a0), (1, .int a1)]) rfl ?_
  refine V.iload_n (pc := 0) C dX8_areKinds_0 1 rfl ?_
  refine V.if_lt (pc := 1) (t := 18) C dX8_areKinds_1 (by decide) (fun c1 => ?_) (fun c1 => ?_)
  · replace hf := ite_t c1 hf
    refine V.iconst (pc := 18) C dX8_areKinds_18 (v := (0 : Int32)) (by decide) ?_
    obtain ⟨f1, f2⟩ := fin2 hf
    clear hf
    subst f1
    subst f2
    exact V.zret (pc := 19) C rfl rfl dX8_areKinds_19
  replace hf := ite_f c1 hf
  refine V.iload_n (pc := 4) C dX8_areKinds_4 1 rfl ?_
  refine V.iconst (pc := 5) C dX8_areKinds_5 (v := (1 : Int32)) (by decide) ?_
  refine V.aload_n (pc := 6) C dX8_areKinds_6 0 rfl ?_
  replace hf := ob_some hf
  obtain ⟨x2, h3, hf⟩ := hf
  refine V.getI (pc := 7) C kX8 (k := 2) (by decide) wd_190 h3 dX8_areKinds_7 ?_
  refine V.ishl (pc := 10) C dX8_areKinds_10 ?_
  refine V.icmp_ge (pc := 11) (t := 18) C dX8_areKinds_11 (by decide) (fun c4 => ?_) (fun c4 => ?_)
  · replace hf := ite_t c4 hf
    refine V.iconst (pc := 18) C dX8_areKinds_18 (v := (0 : Int32)) (by decide) ?_
    obtain ⟨f1, f2⟩ := fin2 hf
    clear hf
    subst f1
    subst f2
    exact V.zret (pc := 19) C rfl rfl dX8_areKinds_19
  replace hf := ite_f c4 hf
  refine V.iconst (pc := 14) C dX8_areKinds_14 (v := (1 : Int32)) (by decide) ?_
  refine V.goto (pc := 15) (t := 19) C dX8_areKinds_15 (by decide) ?_
  obtain ⟨f1, f2⟩ := fin2 hf
  clear hf
  subst f1
  subst f2
  exact V.zret (pc := 19) C rfl rfl dX8_areKinds_19
theorem dX8_madeSearch_0 : decode cX8_madeSearch 0 = .ok (.aload_n 0, 1) := by decide +kernel
theorem dX8_madeSearch_1 : decode cX8_madeSearch 1 = .ok (.getfield 64, 3) := by decide +kernel
theorem dX8_madeSearch_4 : decode cX8_madeSearch 4 = .ok (.ifnonnull 14, 3) := by decide +kernel
theorem dX8_madeSearch_7 : decode cX8_madeSearch 7 = .ok (.aload_n 0, 1) := by decide +kernel
theorem dX8_madeSearch_8 : decode cX8_madeSearch 8 = .ok (.new 170, 3) := by decide +kernel
theorem dX8_madeSearch_11 : decode cX8_madeSearch 11 = .ok (.dup, 1) := by decide +kernel
theorem dX8_madeSearch_12 : decode cX8_madeSearch 12 = .ok (.invokespecial 284, 3) := by decide +kernel
theorem dX8_madeSearch_15 : decode cX8_madeSearch 15 = .ok (.putfield 64, 3) := by decide +kernel
theorem dX8_madeSearch_18 : decode cX8_madeSearch 18 = .ok (.aload_n 0, 1) := by decide +kernel
theorem dX8_madeSearch_19 : decode cX8_madeSearch 19 = .ok (.getfield 64, 3) := by decide +kernel
theorem dX8_madeSearch_22 : decode cX8_madeSearch 22 = .ok (.areturn, 1) := by decide +kernel
def fX8_madeSearch (sz : Nat) (g : PH) (a0 : Nat) : Option (Option Nat × PH × Nat × Nat) :=
  okb (isO g a0 8) ((getQ g a0 8 10).bind fun q1 =>
  (q1.elim (bmp 1 16 ((fX4_init (sz + 1) (hup g sz (.inr (4, dfX4))) sz).bind fun q9 =>
  (bmp q9.2.2.1 q9.2.2.2 ((putV q9.2.1 a0 8 10 (.ref sz)).bind fun g15 =>
  ((getQ g15 a0 8 10).bind fun q17 =>
  (some (q17, g15, 0, 0))))))) (fun p3 =>
  (getQ g a0 8 10).bind fun q19 =>
  (some (q19, g, 0, 0)))))
theorem oX8_madeSearch {g : PH} {sz : Nat} {a0 : Nat} {q : (Option Nat × PH × Nat × Nat)} (h : fX8_madeSearch sz g a0 = some q) : isO g a0 8 = true := by unfold fX8_madeSearch at h; exact (okb_some h).1
theorem hyX8_madeSearch : hMet yX8_madeSearch RX8 cX8_madeSearch 1 (some (.object RX4)) 0 := ⟨wd_682, wd_681, ws_28, wd_1, rfl, by decide +kernel, by decide +kernel, by decide +kernel⟩
set_option maxHeartbeats 4000000 in
set_option maxRecDepth 100000 in
theorem mX8_madeSearch (l : Launch) (E : HE) (sz : Nat) {g g' : PH} {a0 : Nat} {r : Option Nat} {mc ms : Nat} (hf : fX8_madeSearch sz g a0 = some (r, g', mc, ms)) : hM l E yX8_madeSearch cX8_madeSearch 1 (some (.object RX4)) 2 44 mc ms sz g [.ref a0] (some (va_rf r)) g' := by
  refine hM.of (by decide) (Nat.le_of_ble_eq_true rfl) (fun K hl C hin hsz => ?_)
  subst hl
  subst hsz
  have C : VC K E 1 cX8_madeSearch RX8 (some (.object RX4)) := C
  unfold fX8_madeSearch at hf
  replace hf := okb_some hf
  obtain ⟨ho, hf⟩ := hf
  have hkS : K.2.2.2.1.heap.size = kS K := rfl
  have e1 : 0 + mc = mc := Nat.zero_add _
  have e2 : 0 + ms = ms := Nat.zero_add _
  have e3 : kS K = kS K + 0 := rfl
  refine V.start (L' := [(0, .ref a0)]) rfl ?_
  refine V.aload_n (pc := 0) C dX8_madeSearch_0 0 rfl ?_
  replace hf := ob_some hf
  obtain ⟨q1, h2, hf⟩ := hf
  refine V.getQ (pc := 1) C kX8 (k := 10) (by decide) wd_198 h2 dX8_madeSearch_1 ?_
  rcases q1 with _ | p3
  · refine V.ifnonnullN (pc := 4) C dX8_madeSearch_4 ?_
    refine V.aload_n (pc := 7) C dX8_madeSearch_7 0 rfl ?_
    replace hf := bmp_some hf
    obtain ⟨b4, b5, hf, h6, h7⟩ := hf
    refine V.new (pc := 8) C kX4 (fs := dfX4) wd_683 wd_684 wd_15 dfX4_ok (by show _ ≤ mc; omega) (by show _ ≤ ms; omega) dX8_madeSearch_8 ?_
    refine V.dup (pc := 11) C dX8_madeSearch_11 rfl ?_
    replace hf := ob_some hf
    obtain ⟨q9, h10, hf⟩ := hf
    replace hf := bmp_some hf
    obtain ⟨b11, b12, hf, h13, h14⟩ := hf
    refine V.callI (pc := 12) C hyX4_init wd_685 (mX4_init (r := q9.1) (g' := q9.2.1) (mc := q9.2.2.1) (ms := q9.2.2.2) K.2.1 E (((kS K) + 1)) h10) rfl ⟨Nat.le_of_ble_eq_true rfl, Nat.le_of_ble_eq_true rfl⟩ (Nat.le_of_ble_eq_true rfl) dX8_madeSearch_12 ⟨by show _ ≤ mc; omega, by show _ ≤ ms; omega⟩ rfl ?_
    replace hf := ob_some hf
    obtain ⟨g15, h16, hf⟩ := hf
    refine V.putX (pc := 15) C kX8 (k := 10) (by decide) wd_198 rfl rfl rfl h16 dX8_madeSearch_15 ?_
    refine V.aload_n (pc := 18) C dX8_madeSearch_18 0 rfl ?_
    replace hf := ob_some hf
    obtain ⟨q17, h18, hf⟩ := hf
    refine V.getQ (pc := 19) C kX8 (k := 10) (by decide) wd_198 h18 dX8_madeSearch_19 ?_
    obtain ⟨f1, f2, f3, f4⟩ := fin4 hf
    clear hf
    subst f1
    subst f2
    refine V.cast (c := mc) (s := ms) (by omega) (by omega) ?_
    exact V.aret (pc := 22) (v := q17) C (by omega) dX8_madeSearch_22
  refine V.ifnonnull (pc := 4) (t := 18) C dX8_madeSearch_4 (by decide) ?_
  refine V.aload_n (pc := 18) C dX8_madeSearch_18 0 rfl ?_
  replace hf := ob_some hf
  obtain ⟨q19, h20, hf⟩ := hf
  refine V.getQ (pc := 19) C kX8 (k := 10) (by decide) wd_198 h20 dX8_madeSearch_19 ?_
  obtain ⟨f1, f2, f3, f4⟩ := fin4 hf
  clear hf
  subst f1
  subst f2
  refine V.cast (c := mc) (s := ms) (by omega) (by omega) ?_
  exact V.aret (pc := 22) (v := q19) C (by omega) dX8_madeSearch_22
theorem dX8_least_0 : decode cX8_least 0 = .ok (.aload_n 0, 1) := by decide +kernel
theorem dX8_least_1 : decode cX8_least 1 = .ok (.iload_n 1, 1) := by decide +kernel
theorem dX8_least_2 : decode cX8_least 2 = .ok (.invokevirtual 161, 3) := by decide +kernel
theorem dX8_least_5 : decode cX8_least 5 = .ok (.ifCond .ne 5, 3) := by decide +kernel
theorem dX8_least_8 : decode cX8_least 8 = .ok (.iconst (-1), 1) := by decide +kernel
theorem dX8_least_9 : decode cX8_least 9 = .ok (.ireturn, 1) := by decide +kernel
theorem dX8_least_10 : decode cX8_least 10 = .ok (.iload_n 1, 1) := by decide +kernel
theorem dX8_least_11 : decode cX8_least 11 = .ok (.ifCond .ne 5, 3) := by decide +kernel
theorem dX8_least_14 : decode cX8_least 14 = .ok (.iconst 0, 1) := by decide +kernel
theorem dX8_least_15 : decode cX8_least 15 = .ok (.ireturn, 1) := by decide +kernel
theorem dX8_least_16 : decode cX8_least 16 = .ok (.aload_n 0, 1) := by decide +kernel
theorem dX8_least_17 : decode cX8_least 17 = .ok (.invokevirtual 165, 3) := by decide +kernel
theorem dX8_least_20 : decode cX8_least 20 = .ok (.astore_n 2, 1) := by decide +kernel
theorem dX8_least_21 : decode cX8_least 21 = .ok (.aload_n 2, 1) := by decide +kernel
theorem dX8_least_22 : decode cX8_least 22 = .ok (.iload_n 1, 1) := by decide +kernel
theorem dX8_least_23 : decode cX8_least 23 = .ok (.aload_n 0, 1) := by decide +kernel
theorem dX8_least_24 : decode cX8_least 24 = .ok (.getfield 18, 3) := by decide +kernel
theorem dX8_least_27 : decode cX8_least 27 = .ok (.invokevirtual 169, 3) := by decide +kernel
theorem dX8_least_30 : decode cX8_least 30 = .ok (.aload_n 2, 1) := by decide +kernel
theorem dX8_least_31 : decode cX8_least 31 = .ok (.iload_n 1, 1) := by decide +kernel
theorem dX8_least_32 : decode cX8_least 32 = .ok (.invokevirtual 175, 3) := by decide +kernel
theorem dX8_least_35 : decode cX8_least 35 = .ok (.ireturn, 1) := by decide +kernel
def fX8_least (sz : Nat) (g : PH) (a0 : Nat) (a1 : Int32) : Option (Int32 × PH × Nat × Nat) :=
  okb (isO g a0 8) ((fX8_areKinds g a0 a1).bind fun q1 =>
  (if q1.1 = 0 then (some ((-1 : Int32), q1.2, 0, 0)) else
  (if a1 = 0 then (some ((0 : Int32), q1.2, 0, 0)) else
  ((fX8_madeSearch sz q1.2 a0).bind fun (z6, g7, n9, n10) =>
  (bmp n9 n10 ((getR g7 a0 8 1).bind fun p15 =>
  (z6.bind fun p17 =>
  ((fX4_solve g7 p17 a1 p15).bind fun q19 =>
  ((fX4_answerOf q19.2 p17 a1).bind fun q21 =>
  (some (q21.1, q21.2, 0, 0)))))))))))
theorem oX8_least {g : PH} {sz : Nat} {a0 : Nat} {a1 : Int32} {q : (Int32 × PH × Nat × Nat)} (h : fX8_least sz g a0 a1 = some q) : isO g a0 8 = true := by unfold fX8_least at h; exact (okb_some h).1
theorem hyX8_least : hMet yX8_least RX8 cX8_least 3 (some .int) 1 := ⟨wd_674, wd_672, wd_673, wd_1, rfl, by decide +kernel, by decide +kernel, by decide +kernel⟩
set_option maxHeartbeats 4000000 in
set_option maxRecDepth 100000 in
theorem mX8_least (l : Launch) (E : HE) (sz : Nat) {g g' : PH} {a0 : Nat} {a1 : Int32} {r : Int32} {mc ms : Nat} (hf : fX8_least sz g a0 a1 = some (r, g', mc, ms)) : hM l E yX8_least cX8_least 3 (some .int) 6 144 mc ms sz g [.ref a0, .int a1] (some (.int r)) g' := by
  refine hM.of (by decide) (Nat.le_of_ble_eq_true rfl) (fun K hl C hin hsz => ?_)
  subst hl
  subst hsz
  have C : VC K E 3 cX8_least RX8 (some .int) := C
  unfold fX8_least at hf
  replace hf := okb_some hf
  obtain ⟨ho, hf⟩ := hf
  have hkS : K.2.2.2.1.heap.size = kS K := rfl
  have e1 : 0 + mc = mc := Nat.zero_add _
  have e2 : 0 + ms = ms := Nat.zero_add _
  have e3 : kS K = kS K + 0 := rfl
  refine V.start (L' := [(0, .ref a0), (1, .int a1)]) rfl ?_
  refine V.aload_n (pc := 0) C dX8_least_0 0 rfl ?_
  refine V.iload_n (pc := 1) C dX8_least_1 1 rfl ?_
  replace hf := ob_some hf
  obtain ⟨q1, h2, hf⟩ := hf
  refine V.callV0i (pc := 2) C hyX8_areKinds wd_675 (mX8_areKinds (r := q1.1) (g' := q1.2) K.2.1 E ((kS K)) h2) rfl rfl rfl (oX8_areKinds h2) ⟨Nat.le_of_ble_eq_true rfl, Nat.le_of_ble_eq_true rfl⟩ (Nat.le_of_ble_eq_true rfl) dX8_least_2 ⟨by show _ ≤ mc; omega, by show _ ≤ ms; omega⟩ rfl ?_
  refine V.if_ne (pc := 5) (t := 10) C dX8_least_5 (by decide) (fun c3 => ?_) (fun c3 => ?_)
  · replace hf := ite_f c3 hf
    refine V.iload_n (pc := 10) C dX8_least_10 1 rfl ?_
    refine V.if_ne (pc := 11) (t := 16) C dX8_least_11 (by decide) (fun c4 => ?_) (fun c4 => ?_)
    · replace hf := ite_f c4 hf
      refine V.aload_n (pc := 16) C dX8_least_16 0 rfl ?_
      replace hf := ob_some hf
      obtain ⟨⟨z6, g7, n9, n10⟩, h8, hf⟩ := hf
      dsimp only at hf
      replace hf := bmp_some hf
      obtain ⟨b11, b12, hf, h13, h14⟩ := hf
      refine V.callVq (pc := 17) C hyX8_madeSearch wd_679 (mX8_madeSearch (r := z6) (g' := g7) (mc := n9) (ms := n10) K.2.1 E ((kS K)) h8) rfl rfl rfl (oX8_madeSearch h8) ⟨Nat.le_of_ble_eq_true rfl, Nat.le_of_ble_eq_true rfl⟩ (Nat.le_of_ble_eq_true rfl) dX8_least_17 ⟨by show _ ≤ mc; omega, by show _ ≤ ms; omega⟩ rfl ?_
      refine V.astore_nQ (pc := 20) (L' := [(2, va_rf z6), (0, .ref a0), (1, .int a1)]) C (x := z6) dX8_least_20 (by decide) rfl ?_
      refine V.aload_nQ (pc := 21) C dX8_least_21 0 rfl ?_
      refine V.iload_n (pc := 22) C dX8_least_22 2 rfl ?_
      refine V.aload_n (pc := 23) C dX8_least_23 1 rfl ?_
      replace hf := ob_some hf
      obtain ⟨p15, h16, hf⟩ := hf
      refine V.getR (pc := 24) C kX8 (k := 1) (by decide) wd_189 h16 dX8_least_24 ?_
      replace hf := ob_some hf
      obtain ⟨p17, h18, hf⟩ := hf
      subst h18
      replace hf := ob_some hf
      obtain ⟨q19, h20, hf⟩ := hf
      refine V.callV0v (pc := 27) C hyX4_solve wd_744 (mX4_solve (r := q19.1) (g' := q19.2) K.2.1 E (((kS K) + n9)) h20) rfl rfl rfl (oX4_solve h20) ⟨Nat.le_of_ble_eq_true rfl, Nat.le_of_ble_eq_true rfl⟩ (Nat.le_of_ble_eq_true rfl) dX8_least_27 ⟨by show _ ≤ mc; omega, by show _ ≤ ms; omega⟩ rfl ?_
      refine V.aload_n (pc := 30) C dX8_least_30 0 rfl ?_
      refine V.iload_n (pc := 31) C dX8_least_31 2 rfl ?_
      replace hf := ob_some hf
      obtain ⟨q21, h22, hf⟩ := hf
      refine V.callV0i (pc := 32) C hyX4_answerOf wd_806 (mX4_answerOf (r := q21.1) (g' := q21.2) K.2.1 E (((kS K) + n9)) h22) rfl rfl rfl (oX4_answerOf h22) ⟨Nat.le_of_ble_eq_true rfl, Nat.le_of_ble_eq_true rfl⟩ (Nat.le_of_ble_eq_true rfl) dX8_least_32 ⟨by show _ ≤ mc; omega, by show _ ≤ ms; omega⟩ rfl ?_
      obtain ⟨f1, f2, f3, f4⟩ := fin4 hf
      clear hf
      subst f1
      subst f2
      refine V.cast (c := mc) (s := ms) (by omega) (by omega) ?_
      exact V.iret (pc := 35) C (by omega) dX8_least_35
    replace hf := ite_t c4 hf
    refine V.iconst (pc := 14) C dX8_least_14 (v := (0 : Int32)) (by decide) ?_
    obtain ⟨f1, f2, f3, f4⟩ := fin4 hf
    clear hf
    subst f1
    subst f2
    refine V.cast (c := mc) (s := ms) (by omega) (by omega) ?_
    exact V.iret (pc := 15) C (by omega) dX8_least_15
  replace hf := ite_t c3 hf
  refine V.iconst (pc := 8) C dX8_least_8 (v := (-1 : Int32)) (by decide) ?_
  obtain ⟨f1, f2, f3, f4⟩ := fin4 hf
  clear hf
  subst f1
  subst f2
  refine V.cast (c := mc) (s := ms) (by omega) (by omega) ?_
  exact V.iret (pc := 9) C (by omega) dX8_least_9
theorem dX8_walk_0 : decode cX8_walk 0 = .ok (.aload_n 0, 1) := by decide +kernel
theorem dX8_walk_1 : decode cX8_walk 1 = .ok (.iload_n 1, 1) := by decide +kernel
theorem dX8_walk_2 : decode cX8_walk 2 = .ok (.invokevirtual 161, 3) := by decide +kernel
theorem dX8_walk_5 : decode cX8_walk 5 = .ok (.ifCond .eq 12, 3) := by decide +kernel
theorem dX8_walk_8 : decode cX8_walk 8 = .ok (.iload_n 1, 1) := by decide +kernel
theorem dX8_walk_9 : decode cX8_walk 9 = .ok (.ifCond .eq 8, 3) := by decide +kernel
theorem dX8_walk_12 : decode cX8_walk 12 = .ok (.iload_n 2, 1) := by decide +kernel
theorem dX8_walk_13 : decode cX8_walk 13 = .ok (.iconst (-1), 1) := by decide +kernel
theorem dX8_walk_14 : decode cX8_walk 14 = .ok (.if_icmp .ge 5, 3) := by decide +kernel
theorem dX8_walk_17 : decode cX8_walk 17 = .ok (.iconst (-1), 1) := by decide +kernel
theorem dX8_walk_18 : decode cX8_walk 18 = .ok (.ireturn, 1) := by decide +kernel
theorem dX8_walk_19 : decode cX8_walk 19 = .ok (.aload_n 0, 1) := by decide +kernel
theorem dX8_walk_20 : decode cX8_walk 20 = .ok (.invokevirtual 165, 3) := by decide +kernel
theorem dX8_walk_23 : decode cX8_walk 23 = .ok (.astore_n 3, 1) := by decide +kernel
theorem dX8_walk_24 : decode cX8_walk 24 = .ok (.aload_n 3, 1) := by decide +kernel
theorem dX8_walk_25 : decode cX8_walk 25 = .ok (.iload_n 1, 1) := by decide +kernel
theorem dX8_walk_26 : decode cX8_walk 26 = .ok (.aload_n 0, 1) := by decide +kernel
theorem dX8_walk_27 : decode cX8_walk 27 = .ok (.getfield 18, 3) := by decide +kernel
theorem dX8_walk_30 : decode cX8_walk 30 = .ok (.invokevirtual 169, 3) := by decide +kernel
theorem dX8_walk_33 : decode cX8_walk 33 = .ok (.aload_n 3, 1) := by decide +kernel
theorem dX8_walk_34 : decode cX8_walk 34 = .ok (.iload_n 1, 1) := by decide +kernel
theorem dX8_walk_35 : decode cX8_walk 35 = .ok (.invokevirtual 175, 3) := by decide +kernel
theorem dX8_walk_38 : decode cX8_walk 38 = .ok (.istore 4, 2) := by decide +kernel
theorem dX8_walk_40 : decode cX8_walk 40 = .ok (.iload 4, 2) := by decide +kernel
theorem dX8_walk_42 : decode cX8_walk 42 = .ok (.ifCond .gt 5, 3) := by decide +kernel
theorem dX8_walk_45 : decode cX8_walk 45 = .ok (.iconst (-1), 1) := by decide +kernel
theorem dX8_walk_46 : decode cX8_walk 46 = .ok (.ireturn, 1) := by decide +kernel
theorem dX8_walk_47 : decode cX8_walk 47 = .ok (.iload_n 2, 1) := by decide +kernel
theorem dX8_walk_48 : decode cX8_walk 48 = .ok (.iconst (-1), 1) := by decide +kernel
theorem dX8_walk_49 : decode cX8_walk 49 = .ok (.if_icmp .ne 18, 3) := by decide +kernel
theorem dX8_walk_52 : decode cX8_walk 52 = .ok (.iconst 1, 1) := by decide +kernel
theorem dX8_walk_53 : decode cX8_walk 53 = .ok (.aload_n 3, 1) := by decide +kernel
theorem dX8_walk_54 : decode cX8_walk 54 = .ok (.iload_n 1, 1) := by decide +kernel
theorem dX8_walk_55 : decode cX8_walk 55 = .ok (.iload 4, 2) := by decide +kernel
theorem dX8_walk_57 : decode cX8_walk 57 = .ok (.iconst 1, 1) := by decide +kernel
theorem dX8_walk_58 : decode cX8_walk 58 = .ok (.isub, 1) := by decide +kernel
theorem dX8_walk_59 : decode cX8_walk 59 = .ok (.invokevirtual 178, 3) := by decide +kernel
theorem dX8_walk_62 : decode cX8_walk 62 = .ok (.bipush 100, 2) := by decide +kernel
theorem dX8_walk_64 : decode cX8_walk 64 = .ok (.idiv, 1) := by decide +kernel
theorem dX8_walk_65 : decode cX8_walk 65 = .ok (.iadd, 1) := by decide +kernel
theorem dX8_walk_66 : decode cX8_walk 66 = .ok (.ireturn, 1) := by decide +kernel
theorem dX8_walk_67 : decode cX8_walk 67 = .ok (.iload_n 2, 1) := by decide +kernel
theorem dX8_walk_68 : decode cX8_walk 68 = .ok (.iload 4, 2) := by decide +kernel
theorem dX8_walk_70 : decode cX8_walk 70 = .ok (.if_icmp .ge 12, 3) := by decide +kernel
theorem dX8_walk_73 : decode cX8_walk 73 = .ok (.aload_n 3, 1) := by decide +kernel
theorem dX8_walk_74 : decode cX8_walk 74 = .ok (.iload_n 1, 1) := by decide +kernel
theorem dX8_walk_75 : decode cX8_walk 75 = .ok (.iload_n 2, 1) := by decide +kernel
theorem dX8_walk_76 : decode cX8_walk 76 = .ok (.invokevirtual 178, 3) := by decide +kernel
theorem dX8_walk_79 : decode cX8_walk 79 = .ok (.goto 5, 3) := by decide +kernel
theorem dX8_walk_82 : decode cX8_walk 82 = .ok (.bipush (-2), 2) := by decide +kernel
theorem dX8_walk_84 : decode cX8_walk 84 = .ok (.ireturn, 1) := by decide +kernel
def fX8_walk (sz : Nat) (g : PH) (a0 : Nat) (a1 : Int32) (a2 : Int32) : Option (Int32 × PH × Nat × Nat) :=
  okb (isO g a0 8) ((fX8_areKinds g a0 a1).bind fun q1 =>
  (if q1.1 = 0 then (some ((-1 : Int32), q1.2, 0, 0)) else
  (if a1 = 0 then (some ((-1 : Int32), q1.2, 0, 0)) else
  (if (-1 : Int32) ≤ a2 then ((fX8_madeSearch sz q1.2 a0).bind fun (z7, g8, n10, n11) =>
  (bmp n10 n11 ((getR g8 a0 8 1).bind fun p16 =>
  (z7.bind fun p18 =>
  ((fX4_solve g8 p18 a1 p16).bind fun q20 =>
  ((fX4_answerOf q20.2 p18 a1).bind fun q22 =>
  (if 0 < q22.1 then (if a2 = (-1 : Int32) then ((fX4_walkedOp q22.2 p18 a1 (q22.1 - (1 : Int32))).bind fun q29 =>
  (some (((1 : Int32) + (q29.1 / (100 : Int32))), q29.2, 0, 0))) else
  (if q22.1 ≤ a2 then (some ((-2 : Int32), q22.2, 0, 0)) else
  ((fX4_walkedOp q22.2 p18 a1 a2).bind fun q27 =>
  (some (q27.1, q27.2, 0, 0))))) else
  (some ((-1 : Int32), q22.2, 0, 0))))))))) else
  (some ((-1 : Int32), q1.2, 0, 0))))))
theorem oX8_walk {g : PH} {sz : Nat} {a0 : Nat} {a1 : Int32} {a2 : Int32} {q : (Int32 × PH × Nat × Nat)} (h : fX8_walk sz g a0 a1 a2 = some q) : isO g a0 8 = true := by unfold fX8_walk at h; exact (okb_some h).1
theorem hyX8_walk : hMet yX8_walk RX8 cX8_walk 5 (some .int) 2 := ⟨wd_813, wd_811, wd_812, wd_1, rfl, by decide +kernel, by decide +kernel, by decide +kernel⟩
set_option maxHeartbeats 4000000 in
set_option maxRecDepth 100000 in
theorem mX8_walk (l : Launch) (E : HE) (sz : Nat) {g g' : PH} {a0 : Nat} {a1 : Int32} {a2 : Int32} {r : Int32} {mc ms : Nat} (hf : fX8_walk sz g a0 a1 a2 = some (r, g', mc, ms)) : hM l E yX8_walk cX8_walk 5 (some .int) 6 144 mc ms sz g [.ref a0, .int a1, .int a2] (some (.int r)) g' := by
  refine hM.of (by decide) (Nat.le_of_ble_eq_true rfl) (fun K hl C hin hsz => ?_)
  subst hl
  subst hsz
  have C : VC K E 5 cX8_walk RX8 (some .int) := C
  unfold fX8_walk at hf
  replace hf := okb_some hf
  obtain ⟨ho, hf⟩ := hf
  have hkS : K.2.2.2.1.heap.size = kS K := rfl
  have e1 : 0 + mc = mc := Nat.zero_add _
  have e2 : 0 + ms = ms := Nat.zero_add _
  have e3 : kS K = kS K + 0 := rfl
  refine V.start (L' := [(0, .ref a0), (1, .int a1), (2, .int a2)]) rfl ?_
  refine V.aload_n (pc := 0) C dX8_walk_0 0 rfl ?_
  refine V.iload_n (pc := 1) C dX8_walk_1 1 rfl ?_
  replace hf := ob_some hf
  obtain ⟨q1, h2, hf⟩ := hf
  refine V.callV0i (pc := 2) C hyX8_areKinds wd_675 (mX8_areKinds (r := q1.1) (g' := q1.2) K.2.1 E ((kS K)) h2) rfl rfl rfl (oX8_areKinds h2) ⟨Nat.le_of_ble_eq_true rfl, Nat.le_of_ble_eq_true rfl⟩ (Nat.le_of_ble_eq_true rfl) dX8_walk_2 ⟨by show _ ≤ mc; omega, by show _ ≤ ms; omega⟩ rfl ?_
  refine V.if_eq (pc := 5) (t := 17) C dX8_walk_5 (by decide) (fun c3 => ?_) (fun c3 => ?_)
  · replace hf := ite_t c3 hf
    refine V.iconst (pc := 17) C dX8_walk_17 (v := (-1 : Int32)) (by decide) ?_
    obtain ⟨f1, f2, f3, f4⟩ := fin4 hf
    clear hf
    subst f1
    subst f2
    refine V.cast (c := mc) (s := ms) (by omega) (by omega) ?_
    exact V.iret (pc := 18) C (by omega) dX8_walk_18
  replace hf := ite_f c3 hf
  refine V.iload_n (pc := 8) C dX8_walk_8 1 rfl ?_
  refine V.if_eq (pc := 9) (t := 17) C dX8_walk_9 (by decide) (fun c4 => ?_) (fun c4 => ?_)
  · replace hf := ite_t c4 hf
    refine V.iconst (pc := 17) C dX8_walk_17 (v := (-1 : Int32)) (by decide) ?_
    obtain ⟨f1, f2, f3, f4⟩ := fin4 hf
    clear hf
    subst f1
    subst f2
    refine V.cast (c := mc) (s := ms) (by omega) (by omega) ?_
    exact V.iret (pc := 18) C (by omega) dX8_walk_18
  replace hf := ite_f c4 hf
  refine V.iload_n (pc := 12) C dX8_walk_12 2 rfl ?_
  refine V.iconst (pc := 13) C dX8_walk_13 (v := (-1 : Int32)) (by decide) ?_
  refine V.icmp_ge (pc := 14) (t := 19) C dX8_walk_14 (by decide) (fun c5 => ?_) (fun c5 => ?_)
  · replace hf := ite_t c5 hf
    refine V.aload_n (pc := 19) C dX8_walk_19 0 rfl ?_
    replace hf := ob_some hf
    obtain ⟨⟨z7, g8, n10, n11⟩, h9, hf⟩ := hf
    dsimp only at hf
    replace hf := bmp_some hf
    obtain ⟨b12, b13, hf, h14, h15⟩ := hf
    refine V.callVq (pc := 20) C hyX8_madeSearch wd_679 (mX8_madeSearch (r := z7) (g' := g8) (mc := n10) (ms := n11) K.2.1 E ((kS K)) h9) rfl rfl rfl (oX8_madeSearch h9) ⟨Nat.le_of_ble_eq_true rfl, Nat.le_of_ble_eq_true rfl⟩ (Nat.le_of_ble_eq_true rfl) dX8_walk_20 ⟨by show _ ≤ mc; omega, by show _ ≤ ms; omega⟩ rfl ?_
    refine V.astore_nQ (pc := 23) (L' := [(3, va_rf z7), (0, .ref a0), (1, .int a1), (2, .int a2)]) C (x := z7) dX8_walk_23 (by decide) rfl ?_
    refine V.aload_nQ (pc := 24) C dX8_walk_24 0 rfl ?_
    refine V.iload_n (pc := 25) C dX8_walk_25 2 rfl ?_
    refine V.aload_n (pc := 26) C dX8_walk_26 1 rfl ?_
    replace hf := ob_some hf
    obtain ⟨p16, h17, hf⟩ := hf
    refine V.getR (pc := 27) C kX8 (k := 1) (by decide) wd_189 h17 dX8_walk_27 ?_
    replace hf := ob_some hf
    obtain ⟨p18, h19, hf⟩ := hf
    subst h19
    replace hf := ob_some hf
    obtain ⟨q20, h21, hf⟩ := hf
    refine V.callV0v (pc := 30) C hyX4_solve wd_744 (mX4_solve (r := q20.1) (g' := q20.2) K.2.1 E (((kS K) + n10)) h21) rfl rfl rfl (oX4_solve h21) ⟨Nat.le_of_ble_eq_true rfl, Nat.le_of_ble_eq_true rfl⟩ (Nat.le_of_ble_eq_true rfl) dX8_walk_30 ⟨by show _ ≤ mc; omega, by show _ ≤ ms; omega⟩ rfl ?_
    refine V.aload_n (pc := 33) C dX8_walk_33 0 rfl ?_
    refine V.iload_n (pc := 34) C dX8_walk_34 2 rfl ?_
    replace hf := ob_some hf
    obtain ⟨q22, h23, hf⟩ := hf
    refine V.callV0i (pc := 35) C hyX4_answerOf wd_806 (mX4_answerOf (r := q22.1) (g' := q22.2) K.2.1 E (((kS K) + n10)) h23) rfl rfl rfl (oX4_answerOf h23) ⟨Nat.le_of_ble_eq_true rfl, Nat.le_of_ble_eq_true rfl⟩ (Nat.le_of_ble_eq_true rfl) dX8_walk_35 ⟨by show _ ≤ mc; omega, by show _ ≤ ms; omega⟩ rfl ?_
    refine V.istore (pc := 38) (L' := [(4, .int q22.1), (3, .ref p18), (0, .ref a0), (1, .int a1), (2, .int a2)]) C dX8_walk_38 (by decide) rfl ?_
    refine V.iload (pc := 40) C dX8_walk_40 0 rfl ?_
    refine V.if_gt (pc := 42) (t := 47) C dX8_walk_42 (by decide) (fun c24 => ?_) (fun c24 => ?_)
    · replace hf := ite_t c24 hf
      refine V.iload_n (pc := 47) C dX8_walk_47 4 rfl ?_
      refine V.iconst (pc := 48) C dX8_walk_48 (v := (-1 : Int32)) (by decide) ?_
      refine V.icmp_ne (pc := 49) (t := 67) C dX8_walk_49 (by decide) (fun c25 => ?_) (fun c25 => ?_)
      · replace hf := ite_f c25 hf
        refine V.iload_n (pc := 67) C dX8_walk_67 4 rfl ?_
        refine V.iload (pc := 68) C dX8_walk_68 0 rfl ?_
        refine V.icmp_ge (pc := 70) (t := 82) C dX8_walk_70 (by decide) (fun c26 => ?_) (fun c26 => ?_)
        · replace hf := ite_t c26 hf
          refine V.bipush (pc := 82) C dX8_walk_82 (v := (-2 : Int32)) (by decide) ?_
          obtain ⟨f1, f2, f3, f4⟩ := fin4 hf
          clear hf
          subst f1
          subst f2
          refine V.cast (c := mc) (s := ms) (by omega) (by omega) ?_
          exact V.iret (pc := 84) C (by omega) dX8_walk_84
        replace hf := ite_f c26 hf
        refine V.aload_n (pc := 73) C dX8_walk_73 1 rfl ?_
        refine V.iload_n (pc := 74) C dX8_walk_74 3 rfl ?_
        refine V.iload_n (pc := 75) C dX8_walk_75 4 rfl ?_
        replace hf := ob_some hf
        obtain ⟨q27, h28, hf⟩ := hf
        refine V.callV0i (pc := 76) C hyX4_walkedOp wd_814 (mX4_walkedOp (r := q27.1) (g' := q27.2) K.2.1 E (((kS K) + n10)) h28) rfl rfl rfl (oX4_walkedOp h28) ⟨Nat.le_of_ble_eq_true rfl, Nat.le_of_ble_eq_true rfl⟩ (Nat.le_of_ble_eq_true rfl) dX8_walk_76 ⟨by show _ ≤ mc; omega, by show _ ≤ ms; omega⟩ rfl ?_
        refine V.goto (pc := 79) (t := 84) C dX8_walk_79 (by decide) ?_
        obtain ⟨f1, f2, f3, f4⟩ := fin4 hf
        clear hf
        subst f1
        subst f2
        refine V.cast (c := mc) (s := ms) (by omega) (by omega) ?_
        exact V.iret (pc := 84) C (by omega) dX8_walk_84
      replace hf := ite_t c25 hf
      refine V.iconst (pc := 52) C dX8_walk_52 (v := (1 : Int32)) (by decide) ?_
      refine V.aload_n (pc := 53) C dX8_walk_53 1 rfl ?_
      refine V.iload_n (pc := 54) C dX8_walk_54 3 rfl ?_
      refine V.iload (pc := 55) C dX8_walk_55 0 rfl ?_
      refine V.iconst (pc := 57) C dX8_walk_57 (v := (1 : Int32)) (by decide) ?_
      refine V.isub (pc := 58) C dX8_walk_58 ?_
      replace hf := ob_some hf
      obtain ⟨q29, h30, hf⟩ := hf
      refine V.callV0i (pc := 59) C hyX4_walkedOp wd_814 (mX4_walkedOp (r := q29.1) (g' := q29.2) K.2.1 E (((kS K) + n10)) h30) rfl rfl rfl (oX4_walkedOp h30) ⟨Nat.le_of_ble_eq_true rfl, Nat.le_of_ble_eq_true rfl⟩ (Nat.le_of_ble_eq_true rfl) dX8_walk_59 ⟨by show _ ≤ mc; omega, by show _ ≤ ms; omega⟩ rfl ?_
      refine V.bipush (pc := 62) C dX8_walk_62 (v := (100 : Int32)) (by decide) ?_
      refine V.idiv (pc := 64) C dX8_walk_64 (by decide) ?_
      refine V.iadd (pc := 65) C dX8_walk_65 ?_
      obtain ⟨f1, f2, f3, f4⟩ := fin4 hf
      clear hf
      subst f1
      subst f2
      refine V.cast (c := mc) (s := ms) (by omega) (by omega) ?_
      exact V.iret (pc := 66) C (by omega) dX8_walk_66
    replace hf := ite_f c24 hf
    refine V.iconst (pc := 45) C dX8_walk_45 (v := (-1 : Int32)) (by decide) ?_
    obtain ⟨f1, f2, f3, f4⟩ := fin4 hf
    clear hf
    subst f1
    subst f2
    refine V.cast (c := mc) (s := ms) (by omega) (by omega) ?_
    exact V.iret (pc := 46) C (by omega) dX8_walk_46
  replace hf := ite_f c5 hf
  refine V.iconst (pc := 17) C dX8_walk_17 (v := (-1 : Int32)) (by decide) ?_
  obtain ⟨f1, f2, f3, f4⟩ := fin4 hf
  clear hf
  subst f1
  subst f2
  refine V.cast (c := mc) (s := ms) (by omega) (by omega) ?_
  exact V.iret (pc := 18) C (by omega) dX8_walk_18
theorem dX8_memory_0 : decode cX8_memory 0 = .ok (.iload_n 1, 1) := by decide +kernel
theorem dX8_memory_1 : decode cX8_memory 1 = .ok (.iconst 2, 1) := by decide +kernel
theorem dX8_memory_2 : decode cX8_memory 2 = .ok (.if_icmp .lt 9, 3) := by decide +kernel
theorem dX8_memory_5 : decode cX8_memory 5 = .ok (.iload_n 1, 1) := by decide +kernel
theorem dX8_memory_6 : decode cX8_memory 6 = .ok (.bipush 6, 2) := by decide +kernel
theorem dX8_memory_8 : decode cX8_memory 8 = .ok (.if_icmp .le 5, 3) := by decide +kernel
theorem dX8_memory_11 : decode cX8_memory 11 = .ok (.iconst 0, 1) := by decide +kernel
theorem dX8_memory_12 : decode cX8_memory 12 = .ok (.ireturn, 1) := by decide +kernel
theorem dX8_memory_13 : decode cX8_memory 13 = .ok (.aload_n 0, 1) := by decide +kernel
theorem dX8_memory_14 : decode cX8_memory 14 = .ok (.getfield 38, 3) := by decide +kernel
theorem dX8_memory_17 : decode cX8_memory 17 = .ok (.iload_n 1, 1) := by decide +kernel
theorem dX8_memory_18 : decode cX8_memory 18 = .ok (.invokevirtual 71, 3) := by decide +kernel
theorem dX8_memory_21 : decode cX8_memory 21 = .ok (.aload_n 0, 1) := by decide +kernel
theorem dX8_memory_22 : decode cX8_memory 22 = .ok (.getfield 45, 3) := by decide +kernel
theorem dX8_memory_25 : decode cX8_memory 25 = .ok (.invokevirtual 181, 3) := by decide +kernel
theorem dX8_memory_28 : decode cX8_memory 28 = .ok (.iconst 1, 1) := by decide +kernel
theorem dX8_memory_29 : decode cX8_memory 29 = .ok (.ireturn, 1) := by decide +kernel
def fX8_memory (g : PH) (a0 : Nat) (a1 : Int32) : Option (Int32 × PH) :=
  okb (isO g a0 8) (if a1 < (2 : Int32) then (some ((0 : Int32), g)) else
  (if a1 ≤ (6 : Int32) then ((getR g a0 8 5).bind fun p3 =>
  ((fX3_begin g p3 a1).bind fun q5 =>
  ((getR q5.2 a0 8 6).bind fun p7 =>
  ((fX0_forget q5.2 p7).bind fun q9 =>
  (some ((1 : Int32), q9.2)))))) else
  (some ((0 : Int32), g))))
theorem oX8_memory {g : PH} {a0 : Nat} {a1 : Int32} {q : (Int32 × PH)} (h : fX8_memory g a0 a1 = some q) : isO g a0 8 = true := by unfold fX8_memory at h; exact (okb_some h).1
theorem hyX8_memory : hMet yX8_memory RX8 cX8_memory 2 (some .boolean) 1 := ⟨wd_821, wd_819, wd_820, wd_1, rfl, by decide +kernel, by decide +kernel, by decide +kernel⟩
set_option maxHeartbeats 4000000 in
set_option maxRecDepth 100000 in
theorem mX8_memory (l : Launch) (E : HE) (sz : Nat) {g g' : PH} {a0 : Nat} {a1 : Int32} {r : Int32} (hf : fX8_memory g a0 a1 = some (r, g')) : hM l E yX8_memory cX8_memory 2 (some .boolean) 5 110 0 0 sz g [.ref a0, .int a1] (some (.int r)) g' := by
  refine hM.of (by decide) (Nat.le_of_ble_eq_true rfl) (fun K hl C hin hsz => ?_)
  subst hl
  subst hsz
  have C : VC K E 2 cX8_memory RX8 (some .boolean) := C
  unfold fX8_memory at hf
  replace hf := okb_some hf
  obtain ⟨ho, hf⟩ := hf
  refine V.start (L' := [(0, .ref a0), (1, .int a1)]) rfl ?_
  refine V.iload_n (pc := 0) C dX8_memory_0 1 rfl ?_
  refine V.iconst (pc := 1) C dX8_memory_1 (v := (2 : Int32)) (by decide) ?_
  refine V.icmp_lt (pc := 2) (t := 11) C dX8_memory_2 (by decide) (fun c1 => ?_) (fun c1 => ?_)
  · replace hf := ite_t c1 hf
    refine V.iconst (pc := 11) C dX8_memory_11 (v := (0 : Int32)) (by decide) ?_
    obtain ⟨f1, f2⟩ := fin2 hf
    clear hf
    subst f1
    subst f2
    exact V.zret (pc := 12) C rfl rfl dX8_memory_12
  replace hf := ite_f c1 hf
  refine V.iload_n (pc := 5) C dX8_memory_5 1 rfl ?_
  refine V.bipush (pc := 6) C dX8_memory_6 (v := (6 : Int32)) (by decide) ?_
  refine V.icmp_le (pc := 8) (t := 13) C dX8_memory_8 (by decide) (fun c2 => ?_) (fun c2 => ?_)
  · replace hf := ite_t c2 hf
    refine V.aload_n (pc := 13) C dX8_memory_13 0 rfl ?_
    replace hf := ob_some hf
    obtain ⟨p3, h4, hf⟩ := hf
    refine V.getR (pc := 14) C kX8 (k := 5) (by decide) wd_193 h4 dX8_memory_14 ?_
    refine V.iload_n (pc := 17) C dX8_memory_17 1 rfl ?_
    replace hf := ob_some hf
    obtain ⟨q5, h6, hf⟩ := hf
    refine V.callV0v (pc := 18) C hyX3_begin wd_155 (mX3_begin (r := q5.1) (g' := q5.2) K.2.1 E (kS K) h6) rfl rfl rfl (oX3_begin h6) ⟨Nat.le_of_ble_eq_true rfl, Nat.le_of_ble_eq_true rfl⟩ (Nat.le_of_ble_eq_true rfl) dX8_memory_18 ⟨Nat.zero_le _, Nat.zero_le _⟩ rfl ?_
    refine V.aload_n (pc := 21) C dX8_memory_21 0 rfl ?_
    replace hf := ob_some hf
    obtain ⟨p7, h8, hf⟩ := hf
    refine V.getR (pc := 22) C kX8 (k := 6) (by decide) wd_194 h8 dX8_memory_22 ?_
    replace hf := ob_some hf
    obtain ⟨q9, h10, hf⟩ := hf
    refine V.callV0v (pc := 25) C hyX0_forget wd_822 (mX0_forget (r := q9.1) (g' := q9.2) K.2.1 E (kS K) h10) rfl rfl rfl (oX0_forget h10) ⟨Nat.le_of_ble_eq_true rfl, Nat.le_of_ble_eq_true rfl⟩ (Nat.le_of_ble_eq_true rfl) dX8_memory_25 ⟨Nat.zero_le _, Nat.zero_le _⟩ rfl ?_
    refine V.iconst (pc := 28) C dX8_memory_28 (v := (1 : Int32)) (by decide) ?_
    obtain ⟨f1, f2⟩ := fin2 hf
    clear hf
    subst f1
    subst f2
    exact V.zret (pc := 29) C rfl rfl dX8_memory_29
  replace hf := ite_f c2 hf
  refine V.iconst (pc := 11) C dX8_memory_11 (v := (0 : Int32)) (by decide) ?_
  obtain ⟨f1, f2⟩ := fin2 hf
  clear hf
  subst f1
  subst f2
  exact V.zret (pc := 12) C rfl rfl dX8_memory_12
theorem dX8_put_0 : decode cX8_put 0 = .ok (.aload_n 0, 1) := by decide +kernel
theorem dX8_put_1 : decode cX8_put 1 = .ok (.iload_n 1, 1) := by decide +kernel
theorem dX8_put_2 : decode cX8_put 2 = .ok (.invokevirtual 94, 3) := by decide +kernel
theorem dX8_put_5 : decode cX8_put 5 = .ok (.astore 4, 2) := by decide +kernel
theorem dX8_put_7 : decode cX8_put 7 = .ok (.aload 4, 2) := by decide +kernel
theorem dX8_put_9 : decode cX8_put 9 = .ok (.ifnull 14, 3) := by decide +kernel
theorem dX8_put_12 : decode cX8_put 12 = .ok (.aload_n 0, 1) := by decide +kernel
theorem dX8_put_13 : decode cX8_put 13 = .ok (.getfield 38, 3) := by decide +kernel
theorem dX8_put_16 : decode cX8_put 16 = .ok (.iload_n 3, 1) := by decide +kernel
theorem dX8_put_17 : decode cX8_put 17 = .ok (.invokevirtual 184, 3) := by decide +kernel
theorem dX8_put_20 : decode cX8_put 20 = .ok (.ifCond .ne 5, 3) := by decide +kernel
theorem dX8_put_23 : decode cX8_put 23 = .ok (.iconst 0, 1) := by decide +kernel
theorem dX8_put_24 : decode cX8_put 24 = .ok (.ireturn, 1) := by decide +kernel
theorem dX8_put_25 : decode cX8_put 25 = .ok (.aload 4, 2) := by decide +kernel
theorem dX8_put_27 : decode cX8_put 27 = .ok (.getfield 101, 3) := by decide +kernel
theorem dX8_put_30 : decode cX8_put 30 = .ok (.ifCond .eq 27, 3) := by decide +kernel
theorem dX8_put_33 : decode cX8_put 33 = .ok (.aload_n 0, 1) := by decide +kernel
theorem dX8_put_34 : decode cX8_put 34 = .ok (.getfield 38, 3) := by decide +kernel
theorem dX8_put_37 : decode cX8_put 37 = .ok (.iload_n 2, 1) := by decide +kernel
theorem dX8_put_38 : decode cX8_put 38 = .ok (.invokevirtual 184, 3) := by decide +kernel
theorem dX8_put_41 : decode cX8_put 41 = .ok (.ifCond .eq 12, 3) := by decide +kernel
theorem dX8_put_44 : decode cX8_put 44 = .ok (.iload_n 2, 1) := by decide +kernel
theorem dX8_put_45 : decode cX8_put 45 = .ok (.iload_n 3, 1) := by decide +kernel
theorem dX8_put_46 : decode cX8_put 46 = .ok (.if_icmp .eq 7, 3) := by decide +kernel
theorem dX8_put_49 : decode cX8_put 49 = .ok (.iconst 1, 1) := by decide +kernel
theorem dX8_put_50 : decode cX8_put 50 = .ok (.goto 17, 3) := by decide +kernel
theorem dX8_put_53 : decode cX8_put 53 = .ok (.iconst 0, 1) := by decide +kernel
theorem dX8_put_54 : decode cX8_put 54 = .ok (.goto 13, 3) := by decide +kernel
theorem dX8_put_57 : decode cX8_put 57 = .ok (.iload_n 2, 1) := by decide +kernel
theorem dX8_put_58 : decode cX8_put 58 = .ok (.iconst (-1), 1) := by decide +kernel
theorem dX8_put_59 : decode cX8_put 59 = .ok (.if_icmp .ne 7, 3) := by decide +kernel
theorem dX8_put_62 : decode cX8_put 62 = .ok (.iconst 1, 1) := by decide +kernel
theorem dX8_put_63 : decode cX8_put 63 = .ok (.goto 4, 3) := by decide +kernel
theorem dX8_put_66 : decode cX8_put 66 = .ok (.iconst 0, 1) := by decide +kernel
theorem dX8_put_67 : decode cX8_put 67 = .ok (.istore 5, 2) := by decide +kernel
theorem dX8_put_69 : decode cX8_put 69 = .ok (.iload 5, 2) := by decide +kernel
theorem dX8_put_71 : decode cX8_put 71 = .ok (.ifCond .ne 5, 3) := by decide +kernel
theorem dX8_put_74 : decode cX8_put 74 = .ok (.iconst 0, 1) := by decide +kernel
theorem dX8_put_75 : decode cX8_put 75 = .ok (.ireturn, 1) := by decide +kernel
theorem dX8_put_76 : decode cX8_put 76 = .ok (.aload_n 0, 1) := by decide +kernel
theorem dX8_put_77 : decode cX8_put 77 = .ok (.getfield 45, 3) := by decide +kernel
theorem dX8_put_80 : decode cX8_put 80 = .ok (.aload_n 0, 1) := by decide +kernel
theorem dX8_put_81 : decode cX8_put 81 = .ok (.getfield 38, 3) := by decide +kernel
theorem dX8_put_84 : decode cX8_put 84 = .ok (.invokevirtual 187, 3) := by decide +kernel
theorem dX8_put_87 : decode cX8_put 87 = .ok (.aload_n 0, 1) := by decide +kernel
theorem dX8_put_88 : decode cX8_put 88 = .ok (.getfield 38, 3) := by decide +kernel
theorem dX8_put_91 : decode cX8_put 91 = .ok (.aload 4, 2) := by decide +kernel
theorem dX8_put_93 : decode cX8_put 93 = .ok (.iload_n 1, 1) := by decide +kernel
theorem dX8_put_94 : decode cX8_put 94 = .ok (.iload_n 2, 1) := by decide +kernel
theorem dX8_put_95 : decode cX8_put 95 = .ok (.iload_n 3, 1) := by decide +kernel
theorem dX8_put_96 : decode cX8_put 96 = .ok (.invokevirtual 191, 3) := by decide +kernel
theorem dX8_put_99 : decode cX8_put 99 = .ok (.iconst 1, 1) := by decide +kernel
theorem dX8_put_100 : decode cX8_put 100 = .ok (.ireturn, 1) := by decide +kernel
def fX8_put_67  (g : PH) (sz : Nat) (v0 : Nat) (v1 : Int32) (v2 : Int32) (v3 : Int32) (v4 : Nat) (s0 : Int32) : Option (Int32 × PH × Nat × Nat) :=
  if s0 = 0 then (some ((0 : Int32), g, 0, 0)) else
  ((getR g v0 8 6).bind fun p2 =>
  ((getR g v0 8 5).bind fun p4 =>
  ((fX0_keep sz g p2 p4).bind fun q6 =>
  (bmp q6.2.2.1 q6.2.2.2 ((getR q6.2.1 v0 8 5).bind fun p12 =>
  ((fX3_insert q6.2.1 p12 (some v4) v1 v2 v3).bind fun q14 =>
  (some ((1 : Int32), q14.2, 0, 0))))))))
set_option maxHeartbeats 4000000 in
set_option maxRecDepth 100000 in
theorem bX8_put_67 {K : HK} {E : HE} {r : Int32} {g' : PH} {mc ms : Nat}  (C : VC K E 6 cX8_put RX8 (some .boolean))  {g : PH} {sz : Nat} {v0 : Nat} {v1 : Int32} {v2 : Int32} {v3 : Int32} {v4 : Nat} {s0 : Int32} {u1 u2 cs sl : Nat} (hf : fX8_put_67  g sz v0 v1 v2 v3 v4 s0 = some (r, g', u1, u2)) (e1 : cs + u1 = mc) (e2 : sl + u2 = ms) (e3 : sz = kS K + cs) : V K E (hRm 4 103 mc ms) 6 (hZ K E (some (.int r)) g' mc ms) cs sl sz g 67 [(0, .ref v0), (1, .int v1), (2, .int v2), (3, .int v3), (4, .ref v4)] [.int s0] := by
  have hkS : K.2.2.2.1.heap.size = kS K := rfl
  unfold fX8_put_67 at hf
  refine V.istore (pc := 67) (L' := [(5, .int s0), (0, .ref v0), (1, .int v1), (2, .int v2), (3, .int v3), (4, .ref v4)]) C dX8_put_67 (by decide) rfl ?_
  refine V.iload (pc := 69) C dX8_put_69 0 rfl ?_
  refine V.if_ne (pc := 71) (t := 76) C dX8_put_71 (by decide) (fun c1 => ?_) (fun c1 => ?_)
  · replace hf := ite_f c1 hf
    refine V.aload_n (pc := 76) C dX8_put_76 1 rfl ?_
    replace hf := ob_some hf
    obtain ⟨p2, h3, hf⟩ := hf
    refine V.getR (pc := 77) C kX8 (k := 6) (by decide) wd_194 h3 dX8_put_77 ?_
    refine V.aload_n (pc := 80) C dX8_put_80 1 rfl ?_
    replace hf := ob_some hf
    obtain ⟨p4, h5, hf⟩ := hf
    refine V.getR (pc := 81) C kX8 (k := 5) (by decide) wd_193 h5 dX8_put_81 ?_
    replace hf := ob_some hf
    obtain ⟨q6, h7, hf⟩ := hf
    replace hf := bmp_some hf
    obtain ⟨b8, b9, hf, h10, h11⟩ := hf
    refine V.callVv (pc := 84) C hyX0_keep wd_834 (mX0_keep (r := q6.1) (g' := q6.2.1) (mc := q6.2.2.1) (ms := q6.2.2.2) K.2.1 E (sz) h7) rfl rfl rfl (oX0_keep h7) ⟨Nat.le_of_ble_eq_true rfl, Nat.le_of_ble_eq_true rfl⟩ (Nat.le_of_ble_eq_true rfl) dX8_put_84 ⟨by show _ ≤ mc; omega, by show _ ≤ ms; omega⟩ rfl ?_
    refine V.aload_n (pc := 87) C dX8_put_87 1 rfl ?_
    replace hf := ob_some hf
    obtain ⟨p12, h13, hf⟩ := hf
    refine V.getR (pc := 88) C kX8 (k := 5) (by decide) wd_193 h13 dX8_put_88 ?_
    refine V.aload (pc := 91) C dX8_put_91 5 rfl ?_
    refine V.iload_n (pc := 93) C dX8_put_93 2 rfl ?_
    refine V.iload_n (pc := 94) C dX8_put_94 3 rfl ?_
    refine V.iload_n (pc := 95) C dX8_put_95 4 rfl ?_
    replace hf := ob_some hf
    obtain ⟨q14, h15, hf⟩ := hf
    refine V.callV0v (pc := 96) C hyX3_insert wd_847 (mX3_insert (r := q14.1) (g' := q14.2) K.2.1 E ((sz + q6.2.2.1)) h15) rfl rfl rfl (oX3_insert h15) ⟨Nat.le_of_ble_eq_true rfl, Nat.le_of_ble_eq_true rfl⟩ (Nat.le_of_ble_eq_true rfl) dX8_put_96 ⟨by show _ ≤ mc; omega, by show _ ≤ ms; omega⟩ rfl ?_
    refine V.iconst (pc := 99) C dX8_put_99 (v := (1 : Int32)) (by decide) ?_
    obtain ⟨f1, f2, f3, f4⟩ := fin4 hf
    clear hf
    subst f1
    subst f2
    refine V.cast (c := mc) (s := ms) (by omega) (by omega) ?_
    exact V.zret (pc := 100) C rfl (by omega) dX8_put_100
  replace hf := ite_t c1 hf
  refine V.iconst (pc := 74) C dX8_put_74 (v := (0 : Int32)) (by decide) ?_
  obtain ⟨f1, f2, f3, f4⟩ := fin4 hf
  clear hf
  subst f1
  subst f2
  refine V.cast (c := mc) (s := ms) (by omega) (by omega) ?_
  exact V.zret (pc := 75) C rfl (by omega) dX8_put_75
def fX8_put_53  (g : PH) (sz : Nat) (v0 : Nat) (v1 : Int32) (v2 : Int32) (v3 : Int32) (v4 : Nat) : Option (Int32 × PH × Nat × Nat) :=
  fX8_put_67 g sz v0 v1 v2 v3 v4 (0 : Int32)
set_option maxHeartbeats 4000000 in
set_option maxRecDepth 100000 in
theorem bX8_put_53 {K : HK} {E : HE} {r : Int32} {g' : PH} {mc ms : Nat}  (C : VC K E 6 cX8_put RX8 (some .boolean))  {g : PH} {sz : Nat} {v0 : Nat} {v1 : Int32} {v2 : Int32} {v3 : Int32} {v4 : Nat} {u1 u2 cs sl : Nat} (hf : fX8_put_53  g sz v0 v1 v2 v3 v4 = some (r, g', u1, u2)) (e1 : cs + u1 = mc) (e2 : sl + u2 = ms) (e3 : sz = kS K + cs) : V K E (hRm 4 103 mc ms) 6 (hZ K E (some (.int r)) g' mc ms) cs sl sz g 53 [(0, .ref v0), (1, .int v1), (2, .int v2), (3, .int v3), (4, .ref v4)] [] := by
  have hkS : K.2.2.2.1.heap.size = kS K := rfl
  unfold fX8_put_53 at hf
  refine V.iconst (pc := 53) C dX8_put_53 (v := (0 : Int32)) (by decide) ?_
  refine V.goto (pc := 54) (t := 67) C dX8_put_54 (by decide) ?_
  refine V.sub (L' := [(0, .ref v0), (1, .int v1), (2, .int v2), (3, .int v3), (4, .ref v4)]) [0, 1, 2, 3, 4] rfl ?_
  exact bX8_put_67 C  hf (by omega) (by omega) (by omega)
def fX8_put (sz : Nat) (g : PH) (a0 : Nat) (a1 : Int32) (a2 : Int32) (a3 : Int32) : Option (Int32 × PH × Nat × Nat) :=
  okb (isO g a0 8) ((fX8_kindAt g a0 a1).bind fun (z2, g3) =>
  (z2.elim (some ((0 : Int32), g3, 0, 0)) (fun p5 =>
  (getR g3 a0 8 5).bind fun p6 =>
  ((fX3_hasCell g3 p6 a3).bind fun q8 =>
  (if q8.1 = 0 then (some ((0 : Int32), q8.2, 0, 0)) else
  ((getI q8.2 p5 1 1).bind fun x11 =>
  (if x11 = 0 then (if a2 = (-1 : Int32) then (fX8_put_67 q8.2 sz a0 a1 a2 a3 p5 (1 : Int32)) else
  (fX8_put_67 q8.2 sz a0 a1 a2 a3 p5 (0 : Int32))) else
  ((getR q8.2 a0 8 5).bind fun p15 =>
  ((fX3_hasCell q8.2 p15 a2).bind fun q17 =>
  (if q17.1 = 0 then (fX8_put_53 q17.2 sz a0 a1 a2 a3 p5) else
  (if a2 = a3 then (fX8_put_53 q17.2 sz a0 a1 a2 a3 p5) else
  (fX8_put_67 q17.2 sz a0 a1 a2 a3 p5 (1 : Int32)))))))))))))
theorem oX8_put {g : PH} {sz : Nat} {a0 : Nat} {a1 : Int32} {a2 : Int32} {a3 : Int32} {q : (Int32 × PH × Nat × Nat)} (h : fX8_put sz g a0 a1 a2 a3 = some q) : isO g a0 8 = true := by unfold fX8_put at h; exact (okb_some h).1
theorem hyX8_put : hMet yX8_put RX8 cX8_put 6 (some .boolean) 3 := ⟨wd_829, wd_827, wd_828, wd_1, rfl, by decide +kernel, by decide +kernel, by decide +kernel⟩
set_option maxHeartbeats 4000000 in
set_option maxRecDepth 100000 in
theorem mX8_put (l : Launch) (E : HE) (sz : Nat) {g g' : PH} {a0 : Nat} {a1 : Int32} {a2 : Int32} {a3 : Int32} {r : Int32} {mc ms : Nat} (hf : fX8_put sz g a0 a1 a2 a3 = some (r, g', mc, ms)) : hM l E yX8_put cX8_put 6 (some .boolean) 4 103 mc ms sz g [.ref a0, .int a1, .int a2, .int a3] (some (.int r)) g' := by
  refine hM.of (by decide) (Nat.le_of_ble_eq_true rfl) (fun K hl C hin hsz => ?_)
  subst hl
  subst hsz
  have C : VC K E 6 cX8_put RX8 (some .boolean) := C
  unfold fX8_put at hf
  replace hf := okb_some hf
  obtain ⟨ho, hf⟩ := hf
  have hkS : K.2.2.2.1.heap.size = kS K := rfl
  have e1 : 0 + mc = mc := Nat.zero_add _
  have e2 : 0 + ms = ms := Nat.zero_add _
  have e3 : kS K = kS K + 0 := rfl
  refine V.start (L' := [(0, .ref a0), (1, .int a1), (2, .int a2), (3, .int a3)]) rfl ?_
  refine V.aload_n (pc := 0) C dX8_put_0 0 rfl ?_
  refine V.iload_n (pc := 1) C dX8_put_1 1 rfl ?_
  replace hf := ob_some hf
  obtain ⟨⟨z2, g3⟩, h4, hf⟩ := hf
  dsimp only at hf
  refine V.callV0q (pc := 2) C hyX8_kindAt wd_537 (mX8_kindAt (r := z2) (g' := g3) K.2.1 E ((kS K)) h4) rfl rfl rfl (oX8_kindAt h4) ⟨Nat.le_of_ble_eq_true rfl, Nat.le_of_ble_eq_true rfl⟩ (Nat.le_of_ble_eq_true rfl) dX8_put_2 ⟨by show _ ≤ mc; omega, by show _ ≤ ms; omega⟩ rfl ?_
  refine V.astoreQ (pc := 5) (L' := [(4, va_rf z2), (0, .ref a0), (1, .int a1), (2, .int a2), (3, .int a3)]) C (x := z2) dX8_put_5 (by decide) rfl ?_
  refine V.aloadQ (pc := 7) C dX8_put_7 0 rfl ?_
  rcases z2 with _ | p5
  · refine V.ifnullN (pc := 9) (t := 23) C dX8_put_9 (by decide) ?_
    refine V.iconst (pc := 23) C dX8_put_23 (v := (0 : Int32)) (by decide) ?_
    obtain ⟨f1, f2, f3, f4⟩ := fin4 hf
    clear hf
    subst f1
    subst f2
    refine V.cast (c := mc) (s := ms) (by omega) (by omega) ?_
    exact V.zret (pc := 24) C rfl (by omega) dX8_put_24
  refine V.ifnull (pc := 9) C dX8_put_9 ?_
  refine V.aload_n (pc := 12) C dX8_put_12 1 rfl ?_
  replace hf := ob_some hf
  obtain ⟨p6, h7, hf⟩ := hf
  refine V.getR (pc := 13) C kX8 (k := 5) (by decide) wd_193 h7 dX8_put_13 ?_
  refine V.iload_n (pc := 16) C dX8_put_16 4 rfl ?_
  replace hf := ob_some hf
  obtain ⟨q8, h9, hf⟩ := hf
  refine V.callV0i (pc := 17) C hyX3_hasCell wd_830 (mX3_hasCell (r := q8.1) (g' := q8.2) K.2.1 E ((kS K)) h9) rfl rfl rfl (oX3_hasCell h9) ⟨Nat.le_of_ble_eq_true rfl, Nat.le_of_ble_eq_true rfl⟩ (Nat.le_of_ble_eq_true rfl) dX8_put_17 ⟨by show _ ≤ mc; omega, by show _ ≤ ms; omega⟩ rfl ?_
  refine V.if_ne (pc := 20) (t := 25) C dX8_put_20 (by decide) (fun c10 => ?_) (fun c10 => ?_)
  · replace hf := ite_f c10 hf
    refine V.aload (pc := 25) C dX8_put_25 0 rfl ?_
    replace hf := ob_some hf
    obtain ⟨x11, h12, hf⟩ := hf
    refine V.getI (pc := 27) C kX1 (k := 1) (by decide) wd_249 h12 dX8_put_27 ?_
    refine V.if_eq (pc := 30) (t := 57) C dX8_put_30 (by decide) (fun c13 => ?_) (fun c13 => ?_)
    · replace hf := ite_t c13 hf
      refine V.iload_n (pc := 57) C dX8_put_57 3 rfl ?_
      refine V.iconst (pc := 58) C dX8_put_58 (v := (-1 : Int32)) (by decide) ?_
      refine V.icmp_ne (pc := 59) (t := 66) C dX8_put_59 (by decide) (fun c14 => ?_) (fun c14 => ?_)
      · replace hf := ite_f c14 hf
        refine V.iconst (pc := 66) C dX8_put_66 (v := (0 : Int32)) (by decide) ?_
        refine V.sub (L' := [(0, .ref a0), (1, .int a1), (2, .int a2), (3, .int a3), (4, .ref p5)]) [1, 2, 3, 4, 0] rfl ?_
        exact bX8_put_67 C  hf (by omega) (by omega) (by omega)
      replace hf := ite_t c14 hf
      refine V.iconst (pc := 62) C dX8_put_62 (v := (1 : Int32)) (by decide) ?_
      refine V.goto (pc := 63) (t := 67) C dX8_put_63 (by decide) ?_
      refine V.sub (L' := [(0, .ref a0), (1, .int a1), (2, .int a2), (3, .int a3), (4, .ref p5)]) [1, 2, 3, 4, 0] rfl ?_
      exact bX8_put_67 C  hf (by omega) (by omega) (by omega)
    replace hf := ite_f c13 hf
    refine V.aload_n (pc := 33) C dX8_put_33 1 rfl ?_
    replace hf := ob_some hf
    obtain ⟨p15, h16, hf⟩ := hf
    refine V.getR (pc := 34) C kX8 (k := 5) (by decide) wd_193 h16 dX8_put_34 ?_
    refine V.iload_n (pc := 37) C dX8_put_37 3 rfl ?_
    replace hf := ob_some hf
    obtain ⟨q17, h18, hf⟩ := hf
    refine V.callV0i (pc := 38) C hyX3_hasCell wd_830 (mX3_hasCell (r := q17.1) (g' := q17.2) K.2.1 E ((kS K)) h18) rfl rfl rfl (oX3_hasCell h18) ⟨Nat.le_of_ble_eq_true rfl, Nat.le_of_ble_eq_true rfl⟩ (Nat.le_of_ble_eq_true rfl) dX8_put_38 ⟨by show _ ≤ mc; omega, by show _ ≤ ms; omega⟩ rfl ?_
    refine V.if_eq (pc := 41) (t := 53) C dX8_put_41 (by decide) (fun c19 => ?_) (fun c19 => ?_)
    · replace hf := ite_t c19 hf
      refine V.sub (L' := [(0, .ref a0), (1, .int a1), (2, .int a2), (3, .int a3), (4, .ref p5)]) [1, 2, 3, 4, 0] rfl ?_
      exact bX8_put_53 C  hf (by omega) (by omega) (by omega)
    replace hf := ite_f c19 hf
    refine V.iload_n (pc := 44) C dX8_put_44 3 rfl ?_
    refine V.iload_n (pc := 45) C dX8_put_45 4 rfl ?_
    refine V.icmp_eq (pc := 46) (t := 53) C dX8_put_46 (by decide) (fun c20 => ?_) (fun c20 => ?_)
    · replace hf := ite_t c20 hf
      refine V.sub (L' := [(0, .ref a0), (1, .int a1), (2, .int a2), (3, .int a3), (4, .ref p5)]) [1, 2, 3, 4, 0] rfl ?_
      exact bX8_put_53 C  hf (by omega) (by omega) (by omega)
    replace hf := ite_f c20 hf
    refine V.iconst (pc := 49) C dX8_put_49 (v := (1 : Int32)) (by decide) ?_
    refine V.goto (pc := 50) (t := 67) C dX8_put_50 (by decide) ?_
    refine V.sub (L' := [(0, .ref a0), (1, .int a1), (2, .int a2), (3, .int a3), (4, .ref p5)]) [1, 2, 3, 4, 0] rfl ?_
    exact bX8_put_67 C  hf (by omega) (by omega) (by omega)
  replace hf := ite_t c10 hf
  refine V.iconst (pc := 23) C dX8_put_23 (v := (0 : Int32)) (by decide) ?_
  obtain ⟨f1, f2, f3, f4⟩ := fin4 hf
  clear hf
  subst f1
  subst f2
  refine V.cast (c := mc) (s := ms) (by omega) (by omega) ?_
  exact V.zret (pc := 24) C rfl (by omega) dX8_put_24
theorem dX8_heal_0 : decode cX8_heal 0 = .ok (.aload_n 0, 1) := by decide +kernel
theorem dX8_heal_1 : decode cX8_heal 1 = .ok (.getfield 38, 3) := by decide +kernel
theorem dX8_heal_4 : decode cX8_heal 4 = .ok (.getfield 195, 3) := by decide +kernel
theorem dX8_heal_7 : decode cX8_heal 7 = .ok (.ifnonnull 5, 3) := by decide +kernel
theorem dX8_heal_10 : decode cX8_heal 10 = .ok (.iconst 0, 1) := by decide +kernel
theorem dX8_heal_11 : decode cX8_heal 11 = .ok (.ireturn, 1) := by decide +kernel
theorem dX8_heal_12 : decode cX8_heal 12 = .ok (.aload_n 0, 1) := by decide +kernel
theorem dX8_heal_13 : decode cX8_heal 13 = .ok (.getfield 45, 3) := by decide +kernel
theorem dX8_heal_16 : decode cX8_heal 16 = .ok (.aload_n 0, 1) := by decide +kernel
theorem dX8_heal_17 : decode cX8_heal 17 = .ok (.getfield 38, 3) := by decide +kernel
theorem dX8_heal_20 : decode cX8_heal 20 = .ok (.invokevirtual 187, 3) := by decide +kernel
theorem dX8_heal_23 : decode cX8_heal 23 = .ok (.aload_n 0, 1) := by decide +kernel
theorem dX8_heal_24 : decode cX8_heal 24 = .ok (.getfield 38, 3) := by decide +kernel
theorem dX8_heal_27 : decode cX8_heal 27 = .ok (.aconst_null, 1) := by decide +kernel
theorem dX8_heal_28 : decode cX8_heal 28 = .ok (.iconst (-1), 1) := by decide +kernel
theorem dX8_heal_29 : decode cX8_heal 29 = .ok (.iconst (-1), 1) := by decide +kernel
theorem dX8_heal_30 : decode cX8_heal 30 = .ok (.iconst (-1), 1) := by decide +kernel
theorem dX8_heal_31 : decode cX8_heal 31 = .ok (.invokevirtual 191, 3) := by decide +kernel
theorem dX8_heal_34 : decode cX8_heal 34 = .ok (.iconst 1, 1) := by decide +kernel
theorem dX8_heal_35 : decode cX8_heal 35 = .ok (.ireturn, 1) := by decide +kernel
def fX8_heal (sz : Nat) (g : PH) (a0 : Nat) : Option (Int32 × PH × Nat × Nat) :=
  okb (isO g a0 8) ((getR g a0 8 5).bind fun p1 =>
  ((getQ g p1 3 2).bind fun q3 =>
  (q3.elim (some ((0 : Int32), g, 0, 0)) (fun p5 =>
  (getR g a0 8 6).bind fun p6 =>
  ((getR g a0 8 5).bind fun p8 =>
  ((fX0_keep sz g p6 p8).bind fun q10 =>
  (bmp q10.2.2.1 q10.2.2.2 ((getR q10.2.1 a0 8 5).bind fun p16 =>
  ((fX3_insert q10.2.1 p16 none (-1 : Int32) (-1 : Int32) (-1 : Int32)).bind fun q18 =>
  (some ((1 : Int32), q18.2, 0, 0)))))))))))
theorem oX8_heal {g : PH} {sz : Nat} {a0 : Nat} {q : (Int32 × PH × Nat × Nat)} (h : fX8_heal sz g a0 = some q) : isO g a0 8 = true := by unfold fX8_heal at h; exact (okb_some h).1
theorem hyX8_heal : hMet yX8_heal RX8 cX8_heal 1 (some .boolean) 0 := ⟨wd_851, wd_849, wd_850, wd_1, rfl, by decide +kernel, by decide +kernel, by decide +kernel⟩
set_option maxHeartbeats 4000000 in
set_option maxRecDepth 100000 in
theorem mX8_heal (l : Launch) (E : HE) (sz : Nat) {g g' : PH} {a0 : Nat} {r : Int32} {mc ms : Nat} (hf : fX8_heal sz g a0 = some (r, g', mc, ms)) : hM l E yX8_heal cX8_heal 1 (some .boolean) 4 103 mc ms sz g [.ref a0] (some (.int r)) g' := by
  refine hM.of (by decide) (Nat.le_of_ble_eq_true rfl) (fun K hl C hin hsz => ?_)
  subst hl
  subst hsz
  have C : VC K E 1 cX8_heal RX8 (some .boolean) := C
  unfold fX8_heal at hf
  replace hf := okb_some hf
  obtain ⟨ho, hf⟩ := hf
  have hkS : K.2.2.2.1.heap.size = kS K := rfl
  have e1 : 0 + mc = mc := Nat.zero_add _
  have e2 : 0 + ms = ms := Nat.zero_add _
  have e3 : kS K = kS K + 0 := rfl
  refine V.start (L' := [(0, .ref a0)]) rfl ?_
  refine V.aload_n (pc := 0) C dX8_heal_0 0 rfl ?_
  replace hf := ob_some hf
  obtain ⟨p1, h2, hf⟩ := hf
  refine V.getR (pc := 1) C kX8 (k := 5) (by decide) wd_193 h2 dX8_heal_1 ?_
  replace hf := ob_some hf
  obtain ⟨q3, h4, hf⟩ := hf
  refine V.getQ (pc := 4) C kX3 (k := 2) (by decide) wd_64 h4 dX8_heal_4 ?_
  rcases q3 with _ | p5
  · refine V.ifnonnullN (pc := 7) C dX8_heal_7 ?_
    refine V.iconst (pc := 10) C dX8_heal_10 (v := (0 : Int32)) (by decide) ?_
    obtain ⟨f1, f2, f3, f4⟩ := fin4 hf
    clear hf
    subst f1
    subst f2
    refine V.cast (c := mc) (s := ms) (by omega) (by omega) ?_
    exact V.zret (pc := 11) C rfl (by omega) dX8_heal_11
  refine V.ifnonnull (pc := 7) (t := 12) C dX8_heal_7 (by decide) ?_
  refine V.aload_n (pc := 12) C dX8_heal_12 0 rfl ?_
  replace hf := ob_some hf
  obtain ⟨p6, h7, hf⟩ := hf
  refine V.getR (pc := 13) C kX8 (k := 6) (by decide) wd_194 h7 dX8_heal_13 ?_
  refine V.aload_n (pc := 16) C dX8_heal_16 0 rfl ?_
  replace hf := ob_some hf
  obtain ⟨p8, h9, hf⟩ := hf
  refine V.getR (pc := 17) C kX8 (k := 5) (by decide) wd_193 h9 dX8_heal_17 ?_
  replace hf := ob_some hf
  obtain ⟨q10, h11, hf⟩ := hf
  replace hf := bmp_some hf
  obtain ⟨b12, b13, hf, h14, h15⟩ := hf
  refine V.callVv (pc := 20) C hyX0_keep wd_834 (mX0_keep (r := q10.1) (g' := q10.2.1) (mc := q10.2.2.1) (ms := q10.2.2.2) K.2.1 E ((kS K)) h11) rfl rfl rfl (oX0_keep h11) ⟨Nat.le_of_ble_eq_true rfl, Nat.le_of_ble_eq_true rfl⟩ (Nat.le_of_ble_eq_true rfl) dX8_heal_20 ⟨by show _ ≤ mc; omega, by show _ ≤ ms; omega⟩ rfl ?_
  refine V.aload_n (pc := 23) C dX8_heal_23 0 rfl ?_
  replace hf := ob_some hf
  obtain ⟨p16, h17, hf⟩ := hf
  refine V.getR (pc := 24) C kX8 (k := 5) (by decide) wd_193 h17 dX8_heal_24 ?_
  refine V.null (pc := 27) C dX8_heal_27 ?_
  refine V.iconst (pc := 28) C dX8_heal_28 (v := (-1 : Int32)) (by decide) ?_
  refine V.iconst (pc := 29) C dX8_heal_29 (v := (-1 : Int32)) (by decide) ?_
  refine V.iconst (pc := 30) C dX8_heal_30 (v := (-1 : Int32)) (by decide) ?_
  replace hf := ob_some hf
  obtain ⟨q18, h19, hf⟩ := hf
  refine V.callV0v (pc := 31) C hyX3_insert wd_847 (mX3_insert (r := q18.1) (g' := q18.2) K.2.1 E (((kS K) + q10.2.2.1)) h19) rfl rfl rfl (oX3_insert h19) ⟨Nat.le_of_ble_eq_true rfl, Nat.le_of_ble_eq_true rfl⟩ (Nat.le_of_ble_eq_true rfl) dX8_heal_31 ⟨by show _ ≤ mc; omega, by show _ ≤ ms; omega⟩ rfl ?_
  refine V.iconst (pc := 34) C dX8_heal_34 (v := (1 : Int32)) (by decide) ?_
  obtain ⟨f1, f2, f3, f4⟩ := fin4 hf
  clear hf
  subst f1
  subst f2
  refine V.cast (c := mc) (s := ms) (by omega) (by omega) ?_
  exact V.zret (pc := 35) C rfl (by omega) dX8_heal_35
theorem dX8_tell_0 : decode cX8_tell 0 = .ok (.iload_n 1, 1) := by decide +kernel
theorem dX8_tell_1 : decode cX8_tell 1 = .ok (.ifCond .lt 16, 3) := by decide +kernel
theorem dX8_tell_4 : decode cX8_tell 4 = .ok (.iload_n 1, 1) := by decide +kernel
theorem dX8_tell_5 : decode cX8_tell 5 = .ok (.iconst 1, 1) := by decide +kernel
theorem dX8_tell_6 : decode cX8_tell 6 = .ok (.aload_n 0, 1) := by decide +kernel
theorem dX8_tell_7 : decode cX8_tell 7 = .ok (.getfield 38, 3) := by decide +kernel
theorem dX8_tell_10 : decode cX8_tell 10 = .ok (.getfield 105, 3) := by decide +kernel
theorem dX8_tell_13 : decode cX8_tell 13 = .ok (.ishl, 1) := by decide +kernel
theorem dX8_tell_14 : decode cX8_tell 14 = .ok (.if_icmp .lt 5, 3) := by decide +kernel
theorem dX8_tell_17 : decode cX8_tell 17 = .ok (.iconst (-1), 1) := by decide +kernel
theorem dX8_tell_18 : decode cX8_tell 18 = .ok (.ireturn, 1) := by decide +kernel
theorem dX8_tell_19 : decode cX8_tell 19 = .ok (.aload_n 0, 1) := by decide +kernel
theorem dX8_tell_20 : decode cX8_tell 20 = .ok (.getfield 45, 3) := by decide +kernel
theorem dX8_tell_23 : decode cX8_tell 23 = .ok (.aload_n 0, 1) := by decide +kernel
theorem dX8_tell_24 : decode cX8_tell 24 = .ok (.getfield 38, 3) := by decide +kernel
theorem dX8_tell_27 : decode cX8_tell 27 = .ok (.invokevirtual 187, 3) := by decide +kernel
theorem dX8_tell_30 : decode cX8_tell 30 = .ok (.aload_n 0, 1) := by decide +kernel
theorem dX8_tell_31 : decode cX8_tell 31 = .ok (.getfield 38, 3) := by decide +kernel
theorem dX8_tell_34 : decode cX8_tell 34 = .ok (.getfield 198, 3) := by decide +kernel
theorem dX8_tell_37 : decode cX8_tell 37 = .ok (.istore_n 2, 1) := by decide +kernel
theorem dX8_tell_38 : decode cX8_tell 38 = .ok (.aload_n 0, 1) := by decide +kernel
theorem dX8_tell_39 : decode cX8_tell 39 = .ok (.getfield 38, 3) := by decide +kernel
theorem dX8_tell_42 : decode cX8_tell 42 = .ok (.iload_n 1, 1) := by decide +kernel
theorem dX8_tell_43 : decode cX8_tell 43 = .ok (.invokevirtual 201, 3) := by decide +kernel
theorem dX8_tell_46 : decode cX8_tell 46 = .ok (.iload_n 2, 1) := by decide +kernel
theorem dX8_tell_47 : decode cX8_tell 47 = .ok (.ireturn, 1) := by decide +kernel
def fX8_tell (sz : Nat) (g : PH) (a0 : Nat) (a1 : Int32) : Option (Int32 × PH × Nat × Nat) :=
  okb (isO g a0 8) (if a1 < 0 then (some ((-1 : Int32), g, 0, 0)) else
  ((getR g a0 8 5).bind fun p2 =>
  ((getI g p2 3 0).bind fun x4 =>
  (if a1 < ((1 : Int32) <<< (x4 &&& 31)) then ((getR g a0 8 6).bind fun p7 =>
  ((getR g a0 8 5).bind fun p9 =>
  ((fX0_keep sz g p7 p9).bind fun q11 =>
  (bmp q11.2.2.1 q11.2.2.2 ((getR q11.2.1 a0 8 5).bind fun p17 =>
  ((getI q11.2.1 p17 3 1).bind fun x19 =>
  ((getR q11.2.1 a0 8 5).bind fun p21 =>
  ((fX3_fill q11.2.1 p21 a1).bind fun q23 =>
  (some (x19, q23.2, 0, 0)))))))))) else
  (some ((-1 : Int32), g, 0, 0))))))
theorem oX8_tell {g : PH} {sz : Nat} {a0 : Nat} {a1 : Int32} {q : (Int32 × PH × Nat × Nat)} (h : fX8_tell sz g a0 a1 = some q) : isO g a0 8 = true := by unfold fX8_tell at h; exact (okb_some h).1
theorem hyX8_tell : hMet yX8_tell RX8 cX8_tell 3 (some .int) 1 := ⟨wd_855, wd_853, wd_854, wd_1, rfl, by decide +kernel, by decide +kernel, by decide +kernel⟩
set_option maxHeartbeats 4000000 in
set_option maxRecDepth 100000 in
theorem mX8_tell (l : Launch) (E : HE) (sz : Nat) {g g' : PH} {a0 : Nat} {a1 : Int32} {r : Int32} {mc ms : Nat} (hf : fX8_tell sz g a0 a1 = some (r, g', mc, ms)) : hM l E yX8_tell cX8_tell 3 (some .int) 3 103 mc ms sz g [.ref a0, .int a1] (some (.int r)) g' := by
  refine hM.of (by decide) (Nat.le_of_ble_eq_true rfl) (fun K hl C hin hsz => ?_)
  subst hl
  subst hsz
  have C : VC K E 3 cX8_tell RX8 (some .int) := C
  unfold fX8_tell at hf
  replace hf := okb_some hf
  obtain ⟨ho, hf⟩ := hf
  have hkS : K.2.2.2.1.heap.size = kS K := rfl
  have e1 : 0 + mc = mc := Nat.zero_add _
  have e2 : 0 + ms = ms := Nat.zero_add _
  have e3 : kS K = kS K + 0 := rfl
  refine V.start (L' := [(0, .ref a0), (1, .int a1)]) rfl ?_
  refine V.iload_n (pc := 0) C dX8_tell_0 1 rfl ?_
  refine V.if_lt (pc := 1) (t := 17) C dX8_tell_1 (by decide) (fun c1 => ?_) (fun c1 => ?_)
  · replace hf := ite_t c1 hf
    refine V.iconst (pc := 17) C dX8_tell_17 (v := (-1 : Int32)) (by decide) ?_
    obtain ⟨f1, f2, f3, f4⟩ := fin4 hf
    clear hf
    subst f1
    subst f2
    refine V.cast (c := mc) (s := ms) (by omega) (by omega) ?_
    exact V.iret (pc := 18) C (by omega) dX8_tell_18
  replace hf := ite_f c1 hf
  refine V.iload_n (pc := 4) C dX8_tell_4 1 rfl ?_
  refine V.iconst (pc := 5) C dX8_tell_5 (v := (1 : Int32)) (by decide) ?_
  refine V.aload_n (pc := 6) C dX8_tell_6 0 rfl ?_
  replace hf := ob_some hf
  obtain ⟨p2, h3, hf⟩ := hf
  refine V.getR (pc := 7) C kX8 (k := 5) (by decide) wd_193 h3 dX8_tell_7 ?_
  replace hf := ob_some hf
  obtain ⟨x4, h5, hf⟩ := hf
  refine V.getI (pc := 10) C kX3 (k := 0) (by decide) wd_60 h5 dX8_tell_10 ?_
  refine V.ishl (pc := 13) C dX8_tell_13 ?_
  refine V.icmp_lt (pc := 14) (t := 19) C dX8_tell_14 (by decide) (fun c6 => ?_) (fun c6 => ?_)
  · replace hf := ite_t c6 hf
    refine V.aload_n (pc := 19) C dX8_tell_19 0 rfl ?_
    replace hf := ob_some hf
    obtain ⟨p7, h8, hf⟩ := hf
    refine V.getR (pc := 20) C kX8 (k := 6) (by decide) wd_194 h8 dX8_tell_20 ?_
    refine V.aload_n (pc := 23) C dX8_tell_23 0 rfl ?_
    replace hf := ob_some hf
    obtain ⟨p9, h10, hf⟩ := hf
    refine V.getR (pc := 24) C kX8 (k := 5) (by decide) wd_193 h10 dX8_tell_24 ?_
    replace hf := ob_some hf
    obtain ⟨q11, h12, hf⟩ := hf
    replace hf := bmp_some hf
    obtain ⟨b13, b14, hf, h15, h16⟩ := hf
    refine V.callVv (pc := 27) C hyX0_keep wd_834 (mX0_keep (r := q11.1) (g' := q11.2.1) (mc := q11.2.2.1) (ms := q11.2.2.2) K.2.1 E ((kS K)) h12) rfl rfl rfl (oX0_keep h12) ⟨Nat.le_of_ble_eq_true rfl, Nat.le_of_ble_eq_true rfl⟩ (Nat.le_of_ble_eq_true rfl) dX8_tell_27 ⟨by show _ ≤ mc; omega, by show _ ≤ ms; omega⟩ rfl ?_
    refine V.aload_n (pc := 30) C dX8_tell_30 0 rfl ?_
    replace hf := ob_some hf
    obtain ⟨p17, h18, hf⟩ := hf
    refine V.getR (pc := 31) C kX8 (k := 5) (by decide) wd_193 h18 dX8_tell_31 ?_
    replace hf := ob_some hf
    obtain ⟨x19, h20, hf⟩ := hf
    refine V.getI (pc := 34) C kX3 (k := 1) (by decide) wd_62 h20 dX8_tell_34 ?_
    refine V.istore_n (pc := 37) (L' := [(2, .int x19), (0, .ref a0), (1, .int a1)]) C dX8_tell_37 (by decide) rfl ?_
    refine V.aload_n (pc := 38) C dX8_tell_38 1 rfl ?_
    replace hf := ob_some hf
    obtain ⟨p21, h22, hf⟩ := hf
    refine V.getR (pc := 39) C kX8 (k := 5) (by decide) wd_193 h22 dX8_tell_39 ?_
    refine V.iload_n (pc := 42) C dX8_tell_42 2 rfl ?_
    replace hf := ob_some hf
    obtain ⟨q23, h24, hf⟩ := hf
    refine V.callV0v (pc := 43) C hyX3_fill wd_856 (mX3_fill (r := q23.1) (g' := q23.2) K.2.1 E (((kS K) + q11.2.2.1)) h24) rfl rfl rfl (oX3_fill h24) ⟨Nat.le_of_ble_eq_true rfl, Nat.le_of_ble_eq_true rfl⟩ (Nat.le_of_ble_eq_true rfl) dX8_tell_43 ⟨by show _ ≤ mc; omega, by show _ ≤ ms; omega⟩ rfl ?_
    refine V.iload_n (pc := 46) C dX8_tell_46 0 rfl ?_
    obtain ⟨f1, f2, f3, f4⟩ := fin4 hf
    clear hf
    subst f1
    subst f2
    refine V.cast (c := mc) (s := ms) (by omega) (by omega) ?_
    exact V.iret (pc := 47) C (by omega) dX8_tell_47
  replace hf := ite_f c6 hf
  refine V.iconst (pc := 17) C dX8_tell_17 (v := (-1 : Int32)) (by decide) ?_
  obtain ⟨f1, f2, f3, f4⟩ := fin4 hf
  clear hf
  subst f1
  subst f2
  refine V.cast (c := mc) (s := ms) (by omega) (by omega) ?_
  exact V.iret (pc := 18) C (by omega) dX8_tell_18
theorem dX8_write_0 : decode cX8_write 0 = .ok (.aload_n 0, 1) := by decide +kernel
theorem dX8_write_1 : decode cX8_write 1 = .ok (.getfield 38, 3) := by decide +kernel
theorem dX8_write_4 : decode cX8_write 4 = .ok (.iload_n 1, 1) := by decide +kernel
theorem dX8_write_5 : decode cX8_write 5 = .ok (.invokevirtual 184, 3) := by decide +kernel
theorem dX8_write_8 : decode cX8_write 8 = .ok (.ifCond .eq 12, 3) := by decide +kernel
theorem dX8_write_11 : decode cX8_write 11 = .ok (.iload_n 2, 1) := by decide +kernel
theorem dX8_write_12 : decode cX8_write 12 = .ok (.ifCond .lt 8, 3) := by decide +kernel
theorem dX8_write_15 : decode cX8_write 15 = .ok (.iload_n 2, 1) := by decide +kernel
theorem dX8_write_16 : decode cX8_write 16 = .ok (.iconst 1, 1) := by decide +kernel
theorem dX8_write_17 : decode cX8_write 17 = .ok (.if_icmp .le 5, 3) := by decide +kernel
theorem dX8_write_20 : decode cX8_write 20 = .ok (.iconst (-1), 1) := by decide +kernel
theorem dX8_write_21 : decode cX8_write 21 = .ok (.ireturn, 1) := by decide +kernel
theorem dX8_write_22 : decode cX8_write 22 = .ok (.aload_n 0, 1) := by decide +kernel
theorem dX8_write_23 : decode cX8_write 23 = .ok (.getfield 45, 3) := by decide +kernel
theorem dX8_write_26 : decode cX8_write 26 = .ok (.aload_n 0, 1) := by decide +kernel
theorem dX8_write_27 : decode cX8_write 27 = .ok (.getfield 38, 3) := by decide +kernel
theorem dX8_write_30 : decode cX8_write 30 = .ok (.invokevirtual 187, 3) := by decide +kernel
theorem dX8_write_33 : decode cX8_write 33 = .ok (.aload_n 0, 1) := by decide +kernel
theorem dX8_write_34 : decode cX8_write 34 = .ok (.getfield 38, 3) := by decide +kernel
theorem dX8_write_37 : decode cX8_write 37 = .ok (.iload_n 1, 1) := by decide +kernel
theorem dX8_write_38 : decode cX8_write 38 = .ok (.iconst 1, 1) := by decide +kernel
theorem dX8_write_39 : decode cX8_write 39 = .ok (.iload_n 2, 1) := by decide +kernel
theorem dX8_write_40 : decode cX8_write 40 = .ok (.iadd, 1) := by decide +kernel
theorem dX8_write_41 : decode cX8_write 41 = .ok (.invokevirtual 204, 3) := by decide +kernel
theorem dX8_write_44 : decode cX8_write 44 = .ok (.pop, 1) := by decide +kernel
theorem dX8_write_45 : decode cX8_write 45 = .ok (.aload_n 0, 1) := by decide +kernel
theorem dX8_write_46 : decode cX8_write 46 = .ok (.getfield 38, 3) := by decide +kernel
theorem dX8_write_49 : decode cX8_write 49 = .ok (.getfield 198, 3) := by decide +kernel
theorem dX8_write_52 : decode cX8_write 52 = .ok (.ireturn, 1) := by decide +kernel
def fX8_write (sz : Nat) (g : PH) (a0 : Nat) (a1 : Int32) (a2 : Int32) : Option (Int32 × PH × Nat × Nat) :=
  okb (isO g a0 8) ((getR g a0 8 5).bind fun p1 =>
  ((fX3_hasCell g p1 a1).bind fun q3 =>
  (if q3.1 = 0 then (some ((-1 : Int32), q3.2, 0, 0)) else
  (if a2 < 0 then (some ((-1 : Int32), q3.2, 0, 0)) else
  (if a2 ≤ (1 : Int32) then ((getR q3.2 a0 8 6).bind fun p8 =>
  ((getR q3.2 a0 8 5).bind fun p10 =>
  ((fX0_keep sz q3.2 p8 p10).bind fun q12 =>
  (bmp q12.2.2.1 q12.2.2.2 ((getR q12.2.1 a0 8 5).bind fun p18 =>
  ((fX3_operate q12.2.1 p18 a1 ((1 : Int32) + a2)).bind fun q20 =>
  ((getR q20.2 a0 8 5).bind fun p22 =>
  ((getI q20.2 p22 3 1).bind fun x24 =>
  (some (x24, q20.2, 0, 0)))))))))) else
  (some ((-1 : Int32), q3.2, 0, 0)))))))
theorem oX8_write {g : PH} {sz : Nat} {a0 : Nat} {a1 : Int32} {a2 : Int32} {q : (Int32 × PH × Nat × Nat)} (h : fX8_write sz g a0 a1 a2 = some q) : isO g a0 8 = true := by unfold fX8_write at h; exact (okb_some h).1
theorem hyX8_write : hMet yX8_write RX8 cX8_write 3 (some .int) 2 := ⟨wd_860, wd_858, wd_859, wd_1, rfl, by decide +kernel, by decide +kernel, by decide +kernel⟩
set_option maxHeartbeats 4000000 in
set_option maxRecDepth 100000 in
theorem mX8_write (l : Launch) (E : HE) (sz : Nat) {g g' : PH} {a0 : Nat} {a1 : Int32} {a2 : Int32} {r : Int32} {mc ms : Nat} (hf : fX8_write sz g a0 a1 a2 = some (r, g', mc, ms)) : hM l E yX8_write cX8_write 3 (some .int) 3 103 mc ms sz g [.ref a0, .int a1, .int a2] (some (.int r)) g' := by
  refine hM.of (by decide) (Nat.le_of_ble_eq_true rfl) (fun K hl C hin hsz => ?_)
  subst hl
  subst hsz
  have C : VC K E 3 cX8_write RX8 (some .int) := C
  unfold fX8_write at hf
  replace hf := okb_some hf
  obtain ⟨ho, hf⟩ := hf
  have hkS : K.2.2.2.1.heap.size = kS K := rfl
  have e1 : 0 + mc = mc := Nat.zero_add _
  have e2 : 0 + ms = ms := Nat.zero_add _
  have e3 : kS K = kS K + 0 := rfl
  refine V.start (L' := [(0, .ref a0), (1, .int a1), (2, .int a2)]) rfl ?_
  refine V.aload_n (pc := 0) C dX8_write_0 0 rfl ?_
  replace hf := ob_some hf
  obtain ⟨p1, h2, hf⟩ := hf
  refine V.getR (pc := 1) C kX8 (k := 5) (by decide) wd_193 h2 dX8_write_1 ?_
  refine V.iload_n (pc := 4) C dX8_write_4 1 rfl ?_
  replace hf := ob_some hf
  obtain ⟨q3, h4, hf⟩ := hf
  refine V.callV0i (pc := 5) C hyX3_hasCell wd_830 (mX3_hasCell (r := q3.1) (g' := q3.2) K.2.1 E ((kS K)) h4) rfl rfl rfl (oX3_hasCell h4) ⟨Nat.le_of_ble_eq_true rfl, Nat.le_of_ble_eq_true rfl⟩ (Nat.le_of_ble_eq_true rfl) dX8_write_5 ⟨by show _ ≤ mc; omega, by show _ ≤ ms; omega⟩ rfl ?_
  refine V.if_eq (pc := 8) (t := 20) C dX8_write_8 (by decide) (fun c5 => ?_) (fun c5 => ?_)
  · replace hf := ite_t c5 hf
    refine V.iconst (pc := 20) C dX8_write_20 (v := (-1 : Int32)) (by decide) ?_
    obtain ⟨f1, f2, f3, f4⟩ := fin4 hf
    clear hf
    subst f1
    subst f2
    refine V.cast (c := mc) (s := ms) (by omega) (by omega) ?_
    exact V.iret (pc := 21) C (by omega) dX8_write_21
  replace hf := ite_f c5 hf
  refine V.iload_n (pc := 11) C dX8_write_11 2 rfl ?_
  refine V.if_lt (pc := 12) (t := 20) C dX8_write_12 (by decide) (fun c6 => ?_) (fun c6 => ?_)
  · replace hf := ite_t c6 hf
    refine V.iconst (pc := 20) C dX8_write_20 (v := (-1 : Int32)) (by decide) ?_
    obtain ⟨f1, f2, f3, f4⟩ := fin4 hf
    clear hf
    subst f1
    subst f2
    refine V.cast (c := mc) (s := ms) (by omega) (by omega) ?_
    exact V.iret (pc := 21) C (by omega) dX8_write_21
  replace hf := ite_f c6 hf
  refine V.iload_n (pc := 15) C dX8_write_15 2 rfl ?_
  refine V.iconst (pc := 16) C dX8_write_16 (v := (1 : Int32)) (by decide) ?_
  refine V.icmp_le (pc := 17) (t := 22) C dX8_write_17 (by decide) (fun c7 => ?_) (fun c7 => ?_)
  · replace hf := ite_t c7 hf
    refine V.aload_n (pc := 22) C dX8_write_22 0 rfl ?_
    replace hf := ob_some hf
    obtain ⟨p8, h9, hf⟩ := hf
    refine V.getR (pc := 23) C kX8 (k := 6) (by decide) wd_194 h9 dX8_write_23 ?_
    refine V.aload_n (pc := 26) C dX8_write_26 0 rfl ?_
    replace hf := ob_some hf
    obtain ⟨p10, h11, hf⟩ := hf
    refine V.getR (pc := 27) C kX8 (k := 5) (by decide) wd_193 h11 dX8_write_27 ?_
    replace hf := ob_some hf
    obtain ⟨q12, h13, hf⟩ := hf
    replace hf := bmp_some hf
    obtain ⟨b14, b15, hf, h16, h17⟩ := hf
    refine V.callVv (pc := 30) C hyX0_keep wd_834 (mX0_keep (r := q12.1) (g' := q12.2.1) (mc := q12.2.2.1) (ms := q12.2.2.2) K.2.1 E ((kS K)) h13) rfl rfl rfl (oX0_keep h13) ⟨Nat.le_of_ble_eq_true rfl, Nat.le_of_ble_eq_true rfl⟩ (Nat.le_of_ble_eq_true rfl) dX8_write_30 ⟨by show _ ≤ mc; omega, by show _ ≤ ms; omega⟩ rfl ?_
    refine V.aload_n (pc := 33) C dX8_write_33 0 rfl ?_
    replace hf := ob_some hf
    obtain ⟨p18, h19, hf⟩ := hf
    refine V.getR (pc := 34) C kX8 (k := 5) (by decide) wd_193 h19 dX8_write_34 ?_
    refine V.iload_n (pc := 37) C dX8_write_37 1 rfl ?_
    refine V.iconst (pc := 38) C dX8_write_38 (v := (1 : Int32)) (by decide) ?_
    refine V.iload_n (pc := 39) C dX8_write_39 2 rfl ?_
    refine V.iadd (pc := 40) C dX8_write_40 ?_
    replace hf := ob_some hf
    obtain ⟨q20, h21, hf⟩ := hf
    refine V.callV0i (pc := 41) C hyX3_operate wd_861 (mX3_operate (r := q20.1) (g' := q20.2) K.2.1 E (((kS K) + q12.2.2.1)) h21) rfl rfl rfl (oX3_operate h21) ⟨Nat.le_of_ble_eq_true rfl, Nat.le_of_ble_eq_true rfl⟩ (Nat.le_of_ble_eq_true rfl) dX8_write_41 ⟨by show _ ≤ mc; omega, by show _ ≤ ms; omega⟩ rfl ?_
    refine V.pop (pc := 44) C dX8_write_44 rfl ?_
    refine V.aload_n (pc := 45) C dX8_write_45 0 rfl ?_
    replace hf := ob_some hf
    obtain ⟨p22, h23, hf⟩ := hf
    refine V.getR (pc := 46) C kX8 (k := 5) (by decide) wd_193 h23 dX8_write_46 ?_
    replace hf := ob_some hf
    obtain ⟨x24, h25, hf⟩ := hf
    refine V.getI (pc := 49) C kX3 (k := 1) (by decide) wd_62 h25 dX8_write_49 ?_
    obtain ⟨f1, f2, f3, f4⟩ := fin4 hf
    clear hf
    subst f1
    subst f2
    refine V.cast (c := mc) (s := ms) (by omega) (by omega) ?_
    exact V.iret (pc := 52) C (by omega) dX8_write_52
  replace hf := ite_f c7 hf
  refine V.iconst (pc := 20) C dX8_write_20 (v := (-1 : Int32)) (by decide) ?_
  obtain ⟨f1, f2, f3, f4⟩ := fin4 hf
  clear hf
  subst f1
  subst f2
  refine V.cast (c := mc) (s := ms) (by omega) (by omega) ?_
  exact V.iret (pc := 21) C (by omega) dX8_write_21
theorem dX8_read_0 : decode cX8_read 0 = .ok (.aload_n 0, 1) := by decide +kernel
theorem dX8_read_1 : decode cX8_read 1 = .ok (.getfield 38, 3) := by decide +kernel
theorem dX8_read_4 : decode cX8_read 4 = .ok (.iload_n 1, 1) := by decide +kernel
theorem dX8_read_5 : decode cX8_read 5 = .ok (.invokevirtual 184, 3) := by decide +kernel
theorem dX8_read_8 : decode cX8_read 8 = .ok (.ifCond .ne 5, 3) := by decide +kernel
theorem dX8_read_11 : decode cX8_read 11 = .ok (.iconst (-1), 1) := by decide +kernel
theorem dX8_read_12 : decode cX8_read 12 = .ok (.ireturn, 1) := by decide +kernel
theorem dX8_read_13 : decode cX8_read 13 = .ok (.aload_n 0, 1) := by decide +kernel
theorem dX8_read_14 : decode cX8_read 14 = .ok (.getfield 45, 3) := by decide +kernel
theorem dX8_read_17 : decode cX8_read 17 = .ok (.aload_n 0, 1) := by decide +kernel
theorem dX8_read_18 : decode cX8_read 18 = .ok (.getfield 38, 3) := by decide +kernel
theorem dX8_read_21 : decode cX8_read 21 = .ok (.invokevirtual 187, 3) := by decide +kernel
theorem dX8_read_24 : decode cX8_read 24 = .ok (.aload_n 0, 1) := by decide +kernel
theorem dX8_read_25 : decode cX8_read 25 = .ok (.getfield 38, 3) := by decide +kernel
theorem dX8_read_28 : decode cX8_read 28 = .ok (.iload_n 1, 1) := by decide +kernel
theorem dX8_read_29 : decode cX8_read 29 = .ok (.iconst 0, 1) := by decide +kernel
theorem dX8_read_30 : decode cX8_read 30 = .ok (.invokevirtual 204, 3) := by decide +kernel
theorem dX8_read_33 : decode cX8_read 33 = .ok (.ireturn, 1) := by decide +kernel
def fX8_read (sz : Nat) (g : PH) (a0 : Nat) (a1 : Int32) : Option (Int32 × PH × Nat × Nat) :=
  okb (isO g a0 8) ((getR g a0 8 5).bind fun p1 =>
  ((fX3_hasCell g p1 a1).bind fun q3 =>
  (if q3.1 = 0 then (some ((-1 : Int32), q3.2, 0, 0)) else
  ((getR q3.2 a0 8 6).bind fun p6 =>
  ((getR q3.2 a0 8 5).bind fun p8 =>
  ((fX0_keep sz q3.2 p6 p8).bind fun q10 =>
  (bmp q10.2.2.1 q10.2.2.2 ((getR q10.2.1 a0 8 5).bind fun p16 =>
  ((fX3_operate q10.2.1 p16 a1 (0 : Int32)).bind fun q18 =>
  (some (q18.1, q18.2, 0, 0)))))))))))
theorem oX8_read {g : PH} {sz : Nat} {a0 : Nat} {a1 : Int32} {q : (Int32 × PH × Nat × Nat)} (h : fX8_read sz g a0 a1 = some q) : isO g a0 8 = true := by unfold fX8_read at h; exact (okb_some h).1
theorem hyX8_read : hMet yX8_read RX8 cX8_read 2 (some .int) 1 := ⟨wd_873, wd_871, wd_872, wd_1, rfl, by decide +kernel, by decide +kernel, by decide +kernel⟩
set_option maxHeartbeats 4000000 in
set_option maxRecDepth 100000 in
theorem mX8_read (l : Launch) (E : HE) (sz : Nat) {g g' : PH} {a0 : Nat} {a1 : Int32} {r : Int32} {mc ms : Nat} (hf : fX8_read sz g a0 a1 = some (r, g', mc, ms)) : hM l E yX8_read cX8_read 2 (some .int) 3 103 mc ms sz g [.ref a0, .int a1] (some (.int r)) g' := by
  refine hM.of (by decide) (Nat.le_of_ble_eq_true rfl) (fun K hl C hin hsz => ?_)
  subst hl
  subst hsz
  have C : VC K E 2 cX8_read RX8 (some .int) := C
  unfold fX8_read at hf
  replace hf := okb_some hf
  obtain ⟨ho, hf⟩ := hf
  have hkS : K.2.2.2.1.heap.size = kS K := rfl
  have e1 : 0 + mc = mc := Nat.zero_add _
  have e2 : 0 + ms = ms := Nat.zero_add _
  have e3 : kS K = kS K + 0 := rfl
  refine V.start (L' := [(0, .ref a0), (1, .int a1)]) rfl ?_
  refine V.aload_n (pc := 0) C dX8_read_0 0 rfl ?_
  replace hf := ob_some hf
  obtain ⟨p1, h2, hf⟩ := hf
  refine V.getR (pc := 1) C kX8 (k := 5) (by decide) wd_193 h2 dX8_read_1 ?_
  refine V.iload_n (pc := 4) C dX8_read_4 1 rfl ?_
  replace hf := ob_some hf
  obtain ⟨q3, h4, hf⟩ := hf
  refine V.callV0i (pc := 5) C hyX3_hasCell wd_830 (mX3_hasCell (r := q3.1) (g' := q3.2) K.2.1 E ((kS K)) h4) rfl rfl rfl (oX3_hasCell h4) ⟨Nat.le_of_ble_eq_true rfl, Nat.le_of_ble_eq_true rfl⟩ (Nat.le_of_ble_eq_true rfl) dX8_read_5 ⟨by show _ ≤ mc; omega, by show _ ≤ ms; omega⟩ rfl ?_
  refine V.if_ne (pc := 8) (t := 13) C dX8_read_8 (by decide) (fun c5 => ?_) (fun c5 => ?_)
  · replace hf := ite_f c5 hf
    refine V.aload_n (pc := 13) C dX8_read_13 0 rfl ?_
    replace hf := ob_some hf
    obtain ⟨p6, h7, hf⟩ := hf
    refine V.getR (pc := 14) C kX8 (k := 6) (by decide) wd_194 h7 dX8_read_14 ?_
    refine V.aload_n (pc := 17) C dX8_read_17 0 rfl ?_
    replace hf := ob_some hf
    obtain ⟨p8, h9, hf⟩ := hf
    refine V.getR (pc := 18) C kX8 (k := 5) (by decide) wd_193 h9 dX8_read_18 ?_
    replace hf := ob_some hf
    obtain ⟨q10, h11, hf⟩ := hf
    replace hf := bmp_some hf
    obtain ⟨b12, b13, hf, h14, h15⟩ := hf
    refine V.callVv (pc := 21) C hyX0_keep wd_834 (mX0_keep (r := q10.1) (g' := q10.2.1) (mc := q10.2.2.1) (ms := q10.2.2.2) K.2.1 E ((kS K)) h11) rfl rfl rfl (oX0_keep h11) ⟨Nat.le_of_ble_eq_true rfl, Nat.le_of_ble_eq_true rfl⟩ (Nat.le_of_ble_eq_true rfl) dX8_read_21 ⟨by show _ ≤ mc; omega, by show _ ≤ ms; omega⟩ rfl ?_
    refine V.aload_n (pc := 24) C dX8_read_24 0 rfl ?_
    replace hf := ob_some hf
    obtain ⟨p16, h17, hf⟩ := hf
    refine V.getR (pc := 25) C kX8 (k := 5) (by decide) wd_193 h17 dX8_read_25 ?_
    refine V.iload_n (pc := 28) C dX8_read_28 1 rfl ?_
    refine V.iconst (pc := 29) C dX8_read_29 (v := (0 : Int32)) (by decide) ?_
    replace hf := ob_some hf
    obtain ⟨q18, h19, hf⟩ := hf
    refine V.callV0i (pc := 30) C hyX3_operate wd_861 (mX3_operate (r := q18.1) (g' := q18.2) K.2.1 E (((kS K) + q10.2.2.1)) h19) rfl rfl rfl (oX3_operate h19) ⟨Nat.le_of_ble_eq_true rfl, Nat.le_of_ble_eq_true rfl⟩ (Nat.le_of_ble_eq_true rfl) dX8_read_30 ⟨by show _ ≤ mc; omega, by show _ ≤ ms; omega⟩ rfl ?_
    obtain ⟨f1, f2, f3, f4⟩ := fin4 hf
    clear hf
    subst f1
    subst f2
    refine V.cast (c := mc) (s := ms) (by omega) (by omega) ?_
    exact V.iret (pc := 33) C (by omega) dX8_read_33
  replace hf := ite_t c5 hf
  refine V.iconst (pc := 11) C dX8_read_11 (v := (-1 : Int32)) (by decide) ?_
  obtain ⟨f1, f2, f3, f4⟩ := fin4 hf
  clear hf
  subst f1
  subst f2
  refine V.cast (c := mc) (s := ms) (by omega) (by omega) ?_
  exact V.iret (pc := 12) C (by omega) dX8_read_12
theorem dX8_run_0 : decode cX8_run 0 = .ok (.aload_n 0, 1) := by decide +kernel
theorem dX8_run_1 : decode cX8_run 1 = .ok (.iload_n 1, 1) := by decide +kernel
theorem dX8_run_2 : decode cX8_run 2 = .ok (.invokevirtual 112, 3) := by decide +kernel
theorem dX8_run_5 : decode cX8_run 5 = .ok (.astore_n 3, 1) := by decide +kernel
theorem dX8_run_6 : decode cX8_run 6 = .ok (.aload_n 3, 1) := by decide +kernel
theorem dX8_run_7 : decode cX8_run 7 = .ok (.ifnull 13, 3) := by decide +kernel
theorem dX8_run_10 : decode cX8_run 10 = .ok (.iload_n 2, 1) := by decide +kernel
theorem dX8_run_11 : decode cX8_run 11 = .ok (.ifCond .lt 9, 3) := by decide +kernel
theorem dX8_run_14 : decode cX8_run 14 = .ok (.iload_n 2, 1) := by decide +kernel
theorem dX8_run_15 : decode cX8_run 15 = .ok (.bipush 8, 2) := by decide +kernel
theorem dX8_run_17 : decode cX8_run 17 = .ok (.if_icmp .lt 5, 3) := by decide +kernel
theorem dX8_run_20 : decode cX8_run 20 = .ok (.iconst (-1), 1) := by decide +kernel
theorem dX8_run_21 : decode cX8_run 21 = .ok (.ireturn, 1) := by decide +kernel
theorem dX8_run_22 : decode cX8_run 22 = .ok (.aload_n 0, 1) := by decide +kernel
theorem dX8_run_23 : decode cX8_run 23 = .ok (.getfield 45, 3) := by decide +kernel
theorem dX8_run_26 : decode cX8_run 26 = .ok (.aload_n 0, 1) := by decide +kernel
theorem dX8_run_27 : decode cX8_run 27 = .ok (.getfield 38, 3) := by decide +kernel
theorem dX8_run_30 : decode cX8_run 30 = .ok (.invokevirtual 187, 3) := by decide +kernel
theorem dX8_run_33 : decode cX8_run 33 = .ok (.aload_n 0, 1) := by decide +kernel
theorem dX8_run_34 : decode cX8_run 34 = .ok (.getfield 38, 3) := by decide +kernel
theorem dX8_run_37 : decode cX8_run 37 = .ok (.aload_n 3, 1) := by decide +kernel
theorem dX8_run_38 : decode cX8_run 38 = .ok (.iload_n 1, 1) := by decide +kernel
theorem dX8_run_39 : decode cX8_run 39 = .ok (.iload_n 2, 1) := by decide +kernel
theorem dX8_run_40 : decode cX8_run 40 = .ok (.invokevirtual 207, 3) := by decide +kernel
theorem dX8_run_43 : decode cX8_run 43 = .ok (.aload_n 0, 1) := by decide +kernel
theorem dX8_run_44 : decode cX8_run 44 = .ok (.getfield 38, 3) := by decide +kernel
theorem dX8_run_47 : decode cX8_run 47 = .ok (.getfield 211, 3) := by decide +kernel
theorem dX8_run_50 : decode cX8_run 50 = .ok (.ireturn, 1) := by decide +kernel
def fX8_run (sz : Nat) (g : PH) (a0 : Nat) (a1 : Int32) (a2 : Int32) : Option (Int32 × PH × Nat × Nat) :=
  okb (isO g a0 8) ((fX8_marchAt g a0 a1).bind fun (z2, g3) =>
  (z2.elim (some ((-1 : Int32), g3, 0, 0)) (fun p5 =>
  if a2 < 0 then (some ((-1 : Int32), g3, 0, 0)) else
  (if a2 < (8 : Int32) then ((getR g3 a0 8 6).bind fun p8 =>
  ((getR g3 a0 8 5).bind fun p10 =>
  ((fX0_keep sz g3 p8 p10).bind fun q12 =>
  (bmp q12.2.2.1 q12.2.2.2 ((getR q12.2.1 a0 8 5).bind fun p18 =>
  ((fX3_goThrough q12.2.1 p18 p5 a1 a2).bind fun q20 =>
  ((getR q20.2 a0 8 5).bind fun p22 =>
  ((getI q20.2 p22 3 8).bind fun x24 =>
  (some (x24, q20.2, 0, 0)))))))))) else
  (some ((-1 : Int32), g3, 0, 0))))))
theorem oX8_run {g : PH} {sz : Nat} {a0 : Nat} {a1 : Int32} {a2 : Int32} {q : (Int32 × PH × Nat × Nat)} (h : fX8_run sz g a0 a1 a2 = some q) : isO g a0 8 = true := by unfold fX8_run at h; exact (okb_some h).1
theorem hyX8_run : hMet yX8_run RX8 cX8_run 4 (some .int) 2 := ⟨wd_877, wd_875, wd_876, wd_1, rfl, by decide +kernel, by decide +kernel, by decide +kernel⟩
set_option maxHeartbeats 4000000 in
set_option maxRecDepth 100000 in
theorem mX8_run (l : Launch) (E : HE) (sz : Nat) {g g' : PH} {a0 : Nat} {a1 : Int32} {a2 : Int32} {r : Int32} {mc ms : Nat} (hf : fX8_run sz g a0 a1 a2 = some (r, g', mc, ms)) : hM l E yX8_run cX8_run 4 (some .int) 5 123 mc ms sz g [.ref a0, .int a1, .int a2] (some (.int r)) g' := by
  refine hM.of (by decide) (Nat.le_of_ble_eq_true rfl) (fun K hl C hin hsz => ?_)
  subst hl
  subst hsz
  have C : VC K E 4 cX8_run RX8 (some .int) := C
  unfold fX8_run at hf
  replace hf := okb_some hf
  obtain ⟨ho, hf⟩ := hf
  have hkS : K.2.2.2.1.heap.size = kS K := rfl
  have e1 : 0 + mc = mc := Nat.zero_add _
  have e2 : 0 + ms = ms := Nat.zero_add _
  have e3 : kS K = kS K + 0 := rfl
  refine V.start (L' := [(0, .ref a0), (1, .int a1), (2, .int a2)]) rfl ?_
  refine V.aload_n (pc := 0) C dX8_run_0 0 rfl ?_
  refine V.iload_n (pc := 1) C dX8_run_1 1 rfl ?_
  replace hf := ob_some hf
  obtain ⟨⟨z2, g3⟩, h4, hf⟩ := hf
  dsimp only at hf
  refine V.callV0q (pc := 2) C hyX8_marchAt wd_549 (mX8_marchAt (r := z2) (g' := g3) K.2.1 E ((kS K)) h4) rfl rfl rfl (oX8_marchAt h4) ⟨Nat.le_of_ble_eq_true rfl, Nat.le_of_ble_eq_true rfl⟩ (Nat.le_of_ble_eq_true rfl) dX8_run_2 ⟨by show _ ≤ mc; omega, by show _ ≤ ms; omega⟩ rfl ?_
  refine V.astore_nQ (pc := 5) (L' := [(3, va_rf z2), (0, .ref a0), (1, .int a1), (2, .int a2)]) C (x := z2) dX8_run_5 (by decide) rfl ?_
  refine V.aload_nQ (pc := 6) C dX8_run_6 0 rfl ?_
  rcases z2 with _ | p5
  · refine V.ifnullN (pc := 7) (t := 20) C dX8_run_7 (by decide) ?_
    refine V.iconst (pc := 20) C dX8_run_20 (v := (-1 : Int32)) (by decide) ?_
    obtain ⟨f1, f2, f3, f4⟩ := fin4 hf
    clear hf
    subst f1
    subst f2
    refine V.cast (c := mc) (s := ms) (by omega) (by omega) ?_
    exact V.iret (pc := 21) C (by omega) dX8_run_21
  refine V.ifnull (pc := 7) C dX8_run_7 ?_
  refine V.iload_n (pc := 10) C dX8_run_10 3 rfl ?_
  refine V.if_lt (pc := 11) (t := 20) C dX8_run_11 (by decide) (fun c6 => ?_) (fun c6 => ?_)
  · replace hf := ite_t c6 hf
    refine V.iconst (pc := 20) C dX8_run_20 (v := (-1 : Int32)) (by decide) ?_
    obtain ⟨f1, f2, f3, f4⟩ := fin4 hf
    clear hf
    subst f1
    subst f2
    refine V.cast (c := mc) (s := ms) (by omega) (by omega) ?_
    exact V.iret (pc := 21) C (by omega) dX8_run_21
  replace hf := ite_f c6 hf
  refine V.iload_n (pc := 14) C dX8_run_14 3 rfl ?_
  refine V.bipush (pc := 15) C dX8_run_15 (v := (8 : Int32)) (by decide) ?_
  refine V.icmp_lt (pc := 17) (t := 22) C dX8_run_17 (by decide) (fun c7 => ?_) (fun c7 => ?_)
  · replace hf := ite_t c7 hf
    refine V.aload_n (pc := 22) C dX8_run_22 1 rfl ?_
    replace hf := ob_some hf
    obtain ⟨p8, h9, hf⟩ := hf
    refine V.getR (pc := 23) C kX8 (k := 6) (by decide) wd_194 h9 dX8_run_23 ?_
    refine V.aload_n (pc := 26) C dX8_run_26 1 rfl ?_
    replace hf := ob_some hf
    obtain ⟨p10, h11, hf⟩ := hf
    refine V.getR (pc := 27) C kX8 (k := 5) (by decide) wd_193 h11 dX8_run_27 ?_
    replace hf := ob_some hf
    obtain ⟨q12, h13, hf⟩ := hf
    replace hf := bmp_some hf
    obtain ⟨b14, b15, hf, h16, h17⟩ := hf
    refine V.callVv (pc := 30) C hyX0_keep wd_834 (mX0_keep (r := q12.1) (g' := q12.2.1) (mc := q12.2.2.1) (ms := q12.2.2.2) K.2.1 E ((kS K)) h13) rfl rfl rfl (oX0_keep h13) ⟨Nat.le_of_ble_eq_true rfl, Nat.le_of_ble_eq_true rfl⟩ (Nat.le_of_ble_eq_true rfl) dX8_run_30 ⟨by show _ ≤ mc; omega, by show _ ≤ ms; omega⟩ rfl ?_
    refine V.aload_n (pc := 33) C dX8_run_33 1 rfl ?_
    replace hf := ob_some hf
    obtain ⟨p18, h19, hf⟩ := hf
    refine V.getR (pc := 34) C kX8 (k := 5) (by decide) wd_193 h19 dX8_run_34 ?_
    refine V.aload_n (pc := 37) C dX8_run_37 0 rfl ?_
    refine V.iload_n (pc := 38) C dX8_run_38 2 rfl ?_
    refine V.iload_n (pc := 39) C dX8_run_39 3 rfl ?_
    replace hf := ob_some hf
    obtain ⟨q20, h21, hf⟩ := hf
    refine V.callV0v (pc := 40) C hyX3_goThrough wd_878 (mX3_goThrough (r := q20.1) (g' := q20.2) K.2.1 E (((kS K) + q12.2.2.1)) h21) rfl rfl rfl (oX3_goThrough h21) ⟨Nat.le_of_ble_eq_true rfl, Nat.le_of_ble_eq_true rfl⟩ (Nat.le_of_ble_eq_true rfl) dX8_run_40 ⟨by show _ ≤ mc; omega, by show _ ≤ ms; omega⟩ rfl ?_
    refine V.aload_n (pc := 43) C dX8_run_43 1 rfl ?_
    replace hf := ob_some hf
    obtain ⟨p22, h23, hf⟩ := hf
    refine V.getR (pc := 44) C kX8 (k := 5) (by decide) wd_193 h23 dX8_run_44 ?_
    replace hf := ob_some hf
    obtain ⟨x24, h25, hf⟩ := hf
    refine V.getI (pc := 47) C kX3 (k := 8) (by decide) wd_76 h25 dX8_run_47 ?_
    obtain ⟨f1, f2, f3, f4⟩ := fin4 hf
    clear hf
    subst f1
    subst f2
    refine V.cast (c := mc) (s := ms) (by omega) (by omega) ?_
    exact V.iret (pc := 50) C (by omega) dX8_run_50
  replace hf := ite_f c7 hf
  refine V.iconst (pc := 20) C dX8_run_20 (v := (-1 : Int32)) (by decide) ?_
  obtain ⟨f1, f2, f3, f4⟩ := fin4 hf
  clear hf
  subst f1
  subst f2
  refine V.cast (c := mc) (s := ms) (by omega) (by omega) ?_
  exact V.iret (pc := 21) C (by omega) dX8_run_21
theorem dX8_layout_0 : decode cX8_layout 0 = .ok (.aload_n 0, 1) := by decide +kernel
theorem dX8_layout_1 : decode cX8_layout 1 = .ok (.getfield 38, 3) := by decide +kernel
theorem dX8_layout_4 : decode cX8_layout 4 = .ok (.iload_n 1, 1) := by decide +kernel
theorem dX8_layout_5 : decode cX8_layout 5 = .ok (.invokevirtual 184, 3) := by decide +kernel
theorem dX8_layout_8 : decode cX8_layout 8 = .ok (.ifCond .eq 19, 3) := by decide +kernel
theorem dX8_layout_11 : decode cX8_layout 11 = .ok (.aload_n 0, 1) := by decide +kernel
theorem dX8_layout_12 : decode cX8_layout 12 = .ok (.getfield 38, 3) := by decide +kernel
theorem dX8_layout_15 : decode cX8_layout 15 = .ok (.iload_n 2, 1) := by decide +kernel
theorem dX8_layout_16 : decode cX8_layout 16 = .ok (.invokevirtual 184, 3) := by decide +kernel
theorem dX8_layout_19 : decode cX8_layout 19 = .ok (.ifCond .eq 8, 3) := by decide +kernel
theorem dX8_layout_22 : decode cX8_layout 22 = .ok (.iload_n 1, 1) := by decide +kernel
theorem dX8_layout_23 : decode cX8_layout 23 = .ok (.iload_n 2, 1) := by decide +kernel
theorem dX8_layout_24 : decode cX8_layout 24 = .ok (.if_icmp .ne 5, 3) := by decide +kernel
theorem dX8_layout_27 : decode cX8_layout 27 = .ok (.iconst (-1), 1) := by decide +kernel
theorem dX8_layout_28 : decode cX8_layout 28 = .ok (.ireturn, 1) := by decide +kernel
theorem dX8_layout_29 : decode cX8_layout 29 = .ok (.aload_n 0, 1) := by decide +kernel
theorem dX8_layout_30 : decode cX8_layout 30 = .ok (.getfield 45, 3) := by decide +kernel
theorem dX8_layout_33 : decode cX8_layout 33 = .ok (.aload_n 0, 1) := by decide +kernel
theorem dX8_layout_34 : decode cX8_layout 34 = .ok (.getfield 38, 3) := by decide +kernel
theorem dX8_layout_37 : decode cX8_layout 37 = .ok (.invokevirtual 187, 3) := by decide +kernel
theorem dX8_layout_40 : decode cX8_layout 40 = .ok (.aload_n 0, 1) := by decide +kernel
theorem dX8_layout_41 : decode cX8_layout 41 = .ok (.getfield 38, 3) := by decide +kernel
theorem dX8_layout_44 : decode cX8_layout 44 = .ok (.iload_n 1, 1) := by decide +kernel
theorem dX8_layout_45 : decode cX8_layout 45 = .ok (.iload_n 2, 1) := by decide +kernel
theorem dX8_layout_46 : decode cX8_layout 46 = .ok (.invokevirtual 214, 3) := by decide +kernel
theorem dX8_layout_49 : decode cX8_layout 49 = .ok (.aload_n 0, 1) := by decide +kernel
theorem dX8_layout_50 : decode cX8_layout 50 = .ok (.getfield 38, 3) := by decide +kernel
theorem dX8_layout_53 : decode cX8_layout 53 = .ok (.iload_n 1, 1) := by decide +kernel
theorem dX8_layout_54 : decode cX8_layout 54 = .ok (.invokevirtual 218, 3) := by decide +kernel
theorem dX8_layout_57 : decode cX8_layout 57 = .ok (.ireturn, 1) := by decide +kernel
def fX8_layout (sz : Nat) (g : PH) (a0 : Nat) (a1 : Int32) (a2 : Int32) : Option (Int32 × PH × Nat × Nat) :=
  okb (isO g a0 8) ((getR g a0 8 5).bind fun p1 =>
  ((fX3_hasCell g p1 a1).bind fun q3 =>
  (if q3.1 = 0 then (some ((-1 : Int32), q3.2, 0, 0)) else
  ((getR q3.2 a0 8 5).bind fun p6 =>
  ((fX3_hasCell q3.2 p6 a2).bind fun q8 =>
  (if q8.1 = 0 then (some ((-1 : Int32), q8.2, 0, 0)) else
  (if a1 = a2 then (some ((-1 : Int32), q8.2, 0, 0)) else
  ((getR q8.2 a0 8 6).bind fun p12 =>
  ((getR q8.2 a0 8 5).bind fun p14 =>
  ((fX0_keep sz q8.2 p12 p14).bind fun q16 =>
  (bmp q16.2.2.1 q16.2.2.2 ((getR q16.2.1 a0 8 5).bind fun p22 =>
  ((fX3_exchange q16.2.1 p22 a1 a2).bind fun q24 =>
  ((getR q24.2 a0 8 5).bind fun p26 =>
  ((fX3_cellOf q24.2 p26 a1).bind fun q28 =>
  (some (q28.1, q28.2, 0, 0)))))))))))))))))
theorem oX8_layout {g : PH} {sz : Nat} {a0 : Nat} {a1 : Int32} {a2 : Int32} {q : (Int32 × PH × Nat × Nat)} (h : fX8_layout sz g a0 a1 a2 = some q) : isO g a0 8 = true := by unfold fX8_layout at h; exact (okb_some h).1
theorem hyX8_layout : hMet yX8_layout RX8 cX8_layout 3 (some .int) 2 := ⟨wd_898, wd_896, wd_897, wd_1, rfl, by decide +kernel, by decide +kernel, by decide +kernel⟩
set_option maxHeartbeats 4000000 in
set_option maxRecDepth 100000 in
theorem mX8_layout (l : Launch) (E : HE) (sz : Nat) {g g' : PH} {a0 : Nat} {a1 : Int32} {a2 : Int32} {r : Int32} {mc ms : Nat} (hf : fX8_layout sz g a0 a1 a2 = some (r, g', mc, ms)) : hM l E yX8_layout cX8_layout 3 (some .int) 3 103 mc ms sz g [.ref a0, .int a1, .int a2] (some (.int r)) g' := by
  refine hM.of (by decide) (Nat.le_of_ble_eq_true rfl) (fun K hl C hin hsz => ?_)
  subst hl
  subst hsz
  have C : VC K E 3 cX8_layout RX8 (some .int) := C
  unfold fX8_layout at hf
  replace hf := okb_some hf
  obtain ⟨ho, hf⟩ := hf
  have hkS : K.2.2.2.1.heap.size = kS K := rfl
  have e1 : 0 + mc = mc := Nat.zero_add _
  have e2 : 0 + ms = ms := Nat.zero_add _
  have e3 : kS K = kS K + 0 := rfl
  refine V.start (L' := [(0, .ref a0), (1, .int a1), (2, .int a2)]) rfl ?_
  refine V.aload_n (pc := 0) C dX8_layout_0 0 rfl ?_
  replace hf := ob_some hf
  obtain ⟨p1, h2, hf⟩ := hf
  refine V.getR (pc := 1) C kX8 (k := 5) (by decide) wd_193 h2 dX8_layout_1 ?_
  refine V.iload_n (pc := 4) C dX8_layout_4 1 rfl ?_
  replace hf := ob_some hf
  obtain ⟨q3, h4, hf⟩ := hf
  refine V.callV0i (pc := 5) C hyX3_hasCell wd_830 (mX3_hasCell (r := q3.1) (g' := q3.2) K.2.1 E ((kS K)) h4) rfl rfl rfl (oX3_hasCell h4) ⟨Nat.le_of_ble_eq_true rfl, Nat.le_of_ble_eq_true rfl⟩ (Nat.le_of_ble_eq_true rfl) dX8_layout_5 ⟨by show _ ≤ mc; omega, by show _ ≤ ms; omega⟩ rfl ?_
  refine V.if_eq (pc := 8) (t := 27) C dX8_layout_8 (by decide) (fun c5 => ?_) (fun c5 => ?_)
  · replace hf := ite_t c5 hf
    refine V.iconst (pc := 27) C dX8_layout_27 (v := (-1 : Int32)) (by decide) ?_
    obtain ⟨f1, f2, f3, f4⟩ := fin4 hf
    clear hf
    subst f1
    subst f2
    refine V.cast (c := mc) (s := ms) (by omega) (by omega) ?_
    exact V.iret (pc := 28) C (by omega) dX8_layout_28
  replace hf := ite_f c5 hf
  refine V.aload_n (pc := 11) C dX8_layout_11 0 rfl ?_
  replace hf := ob_some hf
  obtain ⟨p6, h7, hf⟩ := hf
  refine V.getR (pc := 12) C kX8 (k := 5) (by decide) wd_193 h7 dX8_layout_12 ?_
  refine V.iload_n (pc := 15) C dX8_layout_15 2 rfl ?_
  replace hf := ob_some hf
  obtain ⟨q8, h9, hf⟩ := hf
  refine V.callV0i (pc := 16) C hyX3_hasCell wd_830 (mX3_hasCell (r := q8.1) (g' := q8.2) K.2.1 E ((kS K)) h9) rfl rfl rfl (oX3_hasCell h9) ⟨Nat.le_of_ble_eq_true rfl, Nat.le_of_ble_eq_true rfl⟩ (Nat.le_of_ble_eq_true rfl) dX8_layout_16 ⟨by show _ ≤ mc; omega, by show _ ≤ ms; omega⟩ rfl ?_
  refine V.if_eq (pc := 19) (t := 27) C dX8_layout_19 (by decide) (fun c10 => ?_) (fun c10 => ?_)
  · replace hf := ite_t c10 hf
    refine V.iconst (pc := 27) C dX8_layout_27 (v := (-1 : Int32)) (by decide) ?_
    obtain ⟨f1, f2, f3, f4⟩ := fin4 hf
    clear hf
    subst f1
    subst f2
    refine V.cast (c := mc) (s := ms) (by omega) (by omega) ?_
    exact V.iret (pc := 28) C (by omega) dX8_layout_28
  replace hf := ite_f c10 hf
  refine V.iload_n (pc := 22) C dX8_layout_22 1 rfl ?_
  refine V.iload_n (pc := 23) C dX8_layout_23 2 rfl ?_
  refine V.icmp_ne (pc := 24) (t := 29) C dX8_layout_24 (by decide) (fun c11 => ?_) (fun c11 => ?_)
  · replace hf := ite_f c11 hf
    refine V.aload_n (pc := 29) C dX8_layout_29 0 rfl ?_
    replace hf := ob_some hf
    obtain ⟨p12, h13, hf⟩ := hf
    refine V.getR (pc := 30) C kX8 (k := 6) (by decide) wd_194 h13 dX8_layout_30 ?_
    refine V.aload_n (pc := 33) C dX8_layout_33 0 rfl ?_
    replace hf := ob_some hf
    obtain ⟨p14, h15, hf⟩ := hf
    refine V.getR (pc := 34) C kX8 (k := 5) (by decide) wd_193 h15 dX8_layout_34 ?_
    replace hf := ob_some hf
    obtain ⟨q16, h17, hf⟩ := hf
    replace hf := bmp_some hf
    obtain ⟨b18, b19, hf, h20, h21⟩ := hf
    refine V.callVv (pc := 37) C hyX0_keep wd_834 (mX0_keep (r := q16.1) (g' := q16.2.1) (mc := q16.2.2.1) (ms := q16.2.2.2) K.2.1 E ((kS K)) h17) rfl rfl rfl (oX0_keep h17) ⟨Nat.le_of_ble_eq_true rfl, Nat.le_of_ble_eq_true rfl⟩ (Nat.le_of_ble_eq_true rfl) dX8_layout_37 ⟨by show _ ≤ mc; omega, by show _ ≤ ms; omega⟩ rfl ?_
    refine V.aload_n (pc := 40) C dX8_layout_40 0 rfl ?_
    replace hf := ob_some hf
    obtain ⟨p22, h23, hf⟩ := hf
    refine V.getR (pc := 41) C kX8 (k := 5) (by decide) wd_193 h23 dX8_layout_41 ?_
    refine V.iload_n (pc := 44) C dX8_layout_44 1 rfl ?_
    refine V.iload_n (pc := 45) C dX8_layout_45 2 rfl ?_
    replace hf := ob_some hf
    obtain ⟨q24, h25, hf⟩ := hf
    refine V.callV0v (pc := 46) C hyX3_exchange wd_899 (mX3_exchange (r := q24.1) (g' := q24.2) K.2.1 E (((kS K) + q16.2.2.1)) h25) rfl rfl rfl (oX3_exchange h25) ⟨Nat.le_of_ble_eq_true rfl, Nat.le_of_ble_eq_true rfl⟩ (Nat.le_of_ble_eq_true rfl) dX8_layout_46 ⟨by show _ ≤ mc; omega, by show _ ≤ ms; omega⟩ rfl ?_
    refine V.aload_n (pc := 49) C dX8_layout_49 0 rfl ?_
    replace hf := ob_some hf
    obtain ⟨p26, h27, hf⟩ := hf
    refine V.getR (pc := 50) C kX8 (k := 5) (by decide) wd_193 h27 dX8_layout_50 ?_
    refine V.iload_n (pc := 53) C dX8_layout_53 1 rfl ?_
    replace hf := ob_some hf
    obtain ⟨q28, h29, hf⟩ := hf
    refine V.callV0i (pc := 54) C hyX3_cellOf wd_904 (mX3_cellOf (r := q28.1) (g' := q28.2) K.2.1 E (((kS K) + q16.2.2.1)) h29) rfl rfl rfl (oX3_cellOf h29) ⟨Nat.le_of_ble_eq_true rfl, Nat.le_of_ble_eq_true rfl⟩ (Nat.le_of_ble_eq_true rfl) dX8_layout_54 ⟨by show _ ≤ mc; omega, by show _ ≤ ms; omega⟩ rfl ?_
    obtain ⟨f1, f2, f3, f4⟩ := fin4 hf
    clear hf
    subst f1
    subst f2
    refine V.cast (c := mc) (s := ms) (by omega) (by omega) ?_
    exact V.iret (pc := 57) C (by omega) dX8_layout_57
  replace hf := ite_t c11 hf
  refine V.iconst (pc := 27) C dX8_layout_27 (v := (-1 : Int32)) (by decide) ?_
  obtain ⟨f1, f2, f3, f4⟩ := fin4 hf
  clear hf
  subst f1
  subst f2
  refine V.cast (c := mc) (s := ms) (by omega) (by omega) ?_
  exact V.iret (pc := 28) C (by omega) dX8_layout_28
theorem dX8_undo_0 : decode cX8_undo 0 = .ok (.aload_n 0, 1) := by decide +kernel
theorem dX8_undo_1 : decode cX8_undo 1 = .ok (.getfield 45, 3) := by decide +kernel
theorem dX8_undo_4 : decode cX8_undo 4 = .ok (.aload_n 0, 1) := by decide +kernel
theorem dX8_undo_5 : decode cX8_undo 5 = .ok (.getfield 38, 3) := by decide +kernel
theorem dX8_undo_8 : decode cX8_undo 8 = .ok (.invokevirtual 221, 3) := by decide +kernel
theorem dX8_undo_11 : decode cX8_undo 11 = .ok (.ifCond .eq 13, 3) := by decide +kernel
theorem dX8_undo_14 : decode cX8_undo 14 = .ok (.aload_n 0, 1) := by decide +kernel
theorem dX8_undo_15 : decode cX8_undo 15 = .ok (.getfield 45, 3) := by decide +kernel
theorem dX8_undo_18 : decode cX8_undo 18 = .ok (.getfield 225, 3) := by decide +kernel
theorem dX8_undo_21 : decode cX8_undo 21 = .ok (.goto 4, 3) := by decide +kernel
theorem dX8_undo_24 : decode cX8_undo 24 = .ok (.iconst (-1), 1) := by decide +kernel
theorem dX8_undo_25 : decode cX8_undo 25 = .ok (.ireturn, 1) := by decide +kernel
def fX8_undo (g : PH) (a0 : Nat) : Option (Int32 × PH) :=
  okb (isO g a0 8) ((getR g a0 8 6).bind fun p1 =>
  ((getR g a0 8 5).bind fun p3 =>
  ((fX0_restore g p1 p3).bind fun q5 =>
  (if q5.1 = 0 then (some ((-1 : Int32), q5.2)) else
  ((getR q5.2 a0 8 6).bind fun p8 =>
  ((getI q5.2 p8 0 0).bind fun x10 =>
  (some (x10, q5.2))))))))
theorem oX8_undo {g : PH} {a0 : Nat} {q : (Int32 × PH)} (h : fX8_undo g a0 = some q) : isO g a0 8 = true := by unfold fX8_undo at h; exact (okb_some h).1
theorem hyX8_undo : hMet yX8_undo RX8 cX8_undo 1 (some .int) 0 := ⟨wd_908, wd_906, wd_907, wd_1, rfl, by decide +kernel, by decide +kernel, by decide +kernel⟩
set_option maxHeartbeats 4000000 in
set_option maxRecDepth 100000 in
theorem mX8_undo (l : Launch) (E : HE) (sz : Nat) {g g' : PH} {a0 : Nat} {r : Int32} (hf : fX8_undo g a0 = some (r, g')) : hM l E yX8_undo cX8_undo 1 (some .int) 3 104 0 0 sz g [.ref a0] (some (.int r)) g' := by
  refine hM.of (by decide) (Nat.le_of_ble_eq_true rfl) (fun K hl C hin hsz => ?_)
  subst hl
  subst hsz
  have C : VC K E 1 cX8_undo RX8 (some .int) := C
  unfold fX8_undo at hf
  replace hf := okb_some hf
  obtain ⟨ho, hf⟩ := hf
  refine V.start (L' := [(0, .ref a0)]) rfl ?_
  refine V.aload_n (pc := 0) C dX8_undo_0 0 rfl ?_
  replace hf := ob_some hf
  obtain ⟨p1, h2, hf⟩ := hf
  refine V.getR (pc := 1) C kX8 (k := 6) (by decide) wd_194 h2 dX8_undo_1 ?_
  refine V.aload_n (pc := 4) C dX8_undo_4 0 rfl ?_
  replace hf := ob_some hf
  obtain ⟨p3, h4, hf⟩ := hf
  refine V.getR (pc := 5) C kX8 (k := 5) (by decide) wd_193 h4 dX8_undo_5 ?_
  replace hf := ob_some hf
  obtain ⟨q5, h6, hf⟩ := hf
  refine V.callV0i (pc := 8) C hyX0_restore wd_909 (mX0_restore (r := q5.1) (g' := q5.2) K.2.1 E (kS K) h6) rfl rfl rfl (oX0_restore h6) ⟨Nat.le_of_ble_eq_true rfl, Nat.le_of_ble_eq_true rfl⟩ (Nat.le_of_ble_eq_true rfl) dX8_undo_8 ⟨Nat.zero_le _, Nat.zero_le _⟩ rfl ?_
  refine V.if_eq (pc := 11) (t := 24) C dX8_undo_11 (by decide) (fun c7 => ?_) (fun c7 => ?_)
  · replace hf := ite_t c7 hf
    refine V.iconst (pc := 24) C dX8_undo_24 (v := (-1 : Int32)) (by decide) ?_
    obtain ⟨f1, f2⟩ := fin2 hf
    clear hf
    subst f1
    subst f2
    exact V.iret (pc := 25) C rfl dX8_undo_25
  replace hf := ite_f c7 hf
  refine V.aload_n (pc := 14) C dX8_undo_14 0 rfl ?_
  replace hf := ob_some hf
  obtain ⟨p8, h9, hf⟩ := hf
  refine V.getR (pc := 15) C kX8 (k := 6) (by decide) wd_194 h9 dX8_undo_15 ?_
  replace hf := ob_some hf
  obtain ⟨x10, h11, hf⟩ := hf
  refine V.getI (pc := 18) C kX0 (k := 0) (by decide) wd_116 h11 dX8_undo_18 ?_
  refine V.goto (pc := 21) (t := 25) C dX8_undo_21 (by decide) ?_
  obtain ⟨f1, f2⟩ := fin2 hf
  clear hf
  subst f1
  subst f2
  exact V.iret (pc := 25) C rfl dX8_undo_25
theorem dX8_cell_0 : decode cX8_cell 0 = .ok (.aload_n 0, 1) := by decide +kernel
theorem dX8_cell_1 : decode cX8_cell 1 = .ok (.getfield 38, 3) := by decide +kernel
theorem dX8_cell_4 : decode cX8_cell 4 = .ok (.iload_n 1, 1) := by decide +kernel
theorem dX8_cell_5 : decode cX8_cell 5 = .ok (.invokevirtual 184, 3) := by decide +kernel
theorem dX8_cell_8 : decode cX8_cell 8 = .ok (.ifCond .ne 5, 3) := by decide +kernel
theorem dX8_cell_11 : decode cX8_cell 11 = .ok (.iconst (-1), 1) := by decide +kernel
theorem dX8_cell_12 : decode cX8_cell 12 = .ok (.ireturn, 1) := by decide +kernel
theorem dX8_cell_13 : decode cX8_cell 13 = .ok (.iload_n 2, 1) := by decide +kernel
theorem dX8_cell_14 : decode cX8_cell 14 = .ok (.lookupswitch 47 #[(0, 26), (1, 35)], 26) := by decide +kernel
theorem dX8_cell_40 : decode cX8_cell 40 = .ok (.aload_n 0, 1) := by decide +kernel
theorem dX8_cell_41 : decode cX8_cell 41 = .ok (.getfield 38, 3) := by decide +kernel
theorem dX8_cell_44 : decode cX8_cell 44 = .ok (.iload_n 1, 1) := by decide +kernel
theorem dX8_cell_45 : decode cX8_cell 45 = .ok (.invokevirtual 218, 3) := by decide +kernel
theorem dX8_cell_48 : decode cX8_cell 48 = .ok (.ireturn, 1) := by decide +kernel
theorem dX8_cell_49 : decode cX8_cell 49 = .ok (.aload_n 0, 1) := by decide +kernel
theorem dX8_cell_50 : decode cX8_cell 50 = .ok (.getfield 38, 3) := by decide +kernel
theorem dX8_cell_53 : decode cX8_cell 53 = .ok (.getfield 198, 3) := by decide +kernel
theorem dX8_cell_56 : decode cX8_cell 56 = .ok (.iload_n 1, 1) := by decide +kernel
theorem dX8_cell_57 : decode cX8_cell 57 = .ok (.ishr, 1) := by decide +kernel
theorem dX8_cell_58 : decode cX8_cell 58 = .ok (.iconst 1, 1) := by decide +kernel
theorem dX8_cell_59 : decode cX8_cell 59 = .ok (.iand, 1) := by decide +kernel
theorem dX8_cell_60 : decode cX8_cell 60 = .ok (.ireturn, 1) := by decide +kernel
theorem dX8_cell_61 : decode cX8_cell 61 = .ok (.iconst (-1), 1) := by decide +kernel
theorem dX8_cell_62 : decode cX8_cell 62 = .ok (.ireturn, 1) := by decide +kernel
def fX8_cell (g : PH) (a0 : Nat) (a1 : Int32) (a2 : Int32) : Option (Int32 × PH) :=
  okb (isO g a0 8) ((getR g a0 8 5).bind fun p1 =>
  ((fX3_hasCell g p1 a1).bind fun q3 =>
  (if q3.1 = 0 then (some ((-1 : Int32), q3.2)) else
  (if a2 = 0 then ((getR q3.2 a0 8 5).bind fun p7 =>
  ((fX3_cellOf q3.2 p7 a1).bind fun q9 =>
  (some (q9.1, q9.2)))) else
  (if a2 = 1 then ((getR q3.2 a0 8 5).bind fun p12 =>
  ((getI q3.2 p12 3 1).bind fun x14 =>
  (some (((x14 >>> (a1 &&& 31)) &&& (1 : Int32)), q3.2)))) else
  (some ((-1 : Int32), q3.2)))))))
theorem oX8_cell {g : PH} {a0 : Nat} {a1 : Int32} {a2 : Int32} {q : (Int32 × PH)} (h : fX8_cell g a0 a1 a2 = some q) : isO g a0 8 = true := by unfold fX8_cell at h; exact (okb_some h).1
theorem hyX8_cell : hMet yX8_cell RX8 cX8_cell 3 (some .int) 2 := ⟨wd_916, wd_914, wd_915, wd_1, rfl, by decide +kernel, by decide +kernel, by decide +kernel⟩
set_option maxHeartbeats 4000000 in
set_option maxRecDepth 100000 in
theorem mX8_cell (l : Launch) (E : HE) (sz : Nat) {g g' : PH} {a0 : Nat} {a1 : Int32} {a2 : Int32} {r : Int32} (hf : fX8_cell g a0 a1 a2 = some (r, g')) : hM l E yX8_cell cX8_cell 3 (some .int) 1 21 0 0 sz g [.ref a0, .int a1, .int a2] (some (.int r)) g' := by
  refine hM.of (by decide) (Nat.le_of_ble_eq_true rfl) (fun K hl C hin hsz => ?_)
  subst hl
  subst hsz
  have C : VC K E 3 cX8_cell RX8 (some .int) := C
  unfold fX8_cell at hf
  replace hf := okb_some hf
  obtain ⟨ho, hf⟩ := hf
  refine V.start (L' := [(0, .ref a0), (1, .int a1), (2, .int a2)]) rfl ?_
  refine V.aload_n (pc := 0) C dX8_cell_0 0 rfl ?_
  replace hf := ob_some hf
  obtain ⟨p1, h2, hf⟩ := hf
  refine V.getR (pc := 1) C kX8 (k := 5) (by decide) wd_193 h2 dX8_cell_1 ?_
  refine V.iload_n (pc := 4) C dX8_cell_4 1 rfl ?_
  replace hf := ob_some hf
  obtain ⟨q3, h4, hf⟩ := hf
  refine V.callV0i (pc := 5) C hyX3_hasCell wd_830 (mX3_hasCell (r := q3.1) (g' := q3.2) K.2.1 E (kS K) h4) rfl rfl rfl (oX3_hasCell h4) ⟨Nat.le_of_ble_eq_true rfl, Nat.le_of_ble_eq_true rfl⟩ (Nat.le_of_ble_eq_true rfl) dX8_cell_5 ⟨Nat.zero_le _, Nat.zero_le _⟩ rfl ?_
  refine V.if_ne (pc := 8) (t := 13) C dX8_cell_8 (by decide) (fun c5 => ?_) (fun c5 => ?_)
  · replace hf := ite_f c5 hf
    refine V.iload_n (pc := 13) C dX8_cell_13 2 rfl ?_
    by_cases c6 : a2 = 0
    · replace hf := ite_t c6 hf
      refine V.lsw (pc := 14) (off := 26) (t := 40) C dX8_cell_14 (by decide) (by rw [c6]; decide) (by decide) ?_
      refine V.aload_n (pc := 40) C dX8_cell_40 0 rfl ?_
      replace hf := ob_some hf
      obtain ⟨p7, h8, hf⟩ := hf
      refine V.getR (pc := 41) C kX8 (k := 5) (by decide) wd_193 h8 dX8_cell_41 ?_
      refine V.iload_n (pc := 44) C dX8_cell_44 1 rfl ?_
      replace hf := ob_some hf
      obtain ⟨q9, h10, hf⟩ := hf
      refine V.callV0i (pc := 45) C hyX3_cellOf wd_904 (mX3_cellOf (r := q9.1) (g' := q9.2) K.2.1 E (kS K) h10) rfl rfl rfl (oX3_cellOf h10) ⟨Nat.le_of_ble_eq_true rfl, Nat.le_of_ble_eq_true rfl⟩ (Nat.le_of_ble_eq_true rfl) dX8_cell_45 ⟨Nat.zero_le _, Nat.zero_le _⟩ rfl ?_
      obtain ⟨f1, f2⟩ := fin2 hf
      clear hf
      subst f1
      subst f2
      exact V.iret (pc := 48) C rfl dX8_cell_48
    replace hf := ite_f c6 hf
    by_cases c11 : a2 = 1
    · replace hf := ite_t c11 hf
      refine V.lsw (pc := 14) (off := 35) (t := 49) C dX8_cell_14 (by decide) (by rw [c11]; decide) (by decide) ?_
      refine V.aload_n (pc := 49) C dX8_cell_49 0 rfl ?_
      replace hf := ob_some hf
      obtain ⟨p12, h13, hf⟩ := hf
      refine V.getR (pc := 50) C kX8 (k := 5) (by decide) wd_193 h13 dX8_cell_50 ?_
      replace hf := ob_some hf
      obtain ⟨x14, h15, hf⟩ := hf
      refine V.getI (pc := 53) C kX3 (k := 1) (by decide) wd_62 h15 dX8_cell_53 ?_
      refine V.iload_n (pc := 56) C dX8_cell_56 1 rfl ?_
      refine V.ishr (pc := 57) C dX8_cell_57 ?_
      refine V.iconst (pc := 58) C dX8_cell_58 (v := (1 : Int32)) (by decide) ?_
      refine V.iand (pc := 59) C dX8_cell_59 ?_
      obtain ⟨f1, f2⟩ := fin2 hf
      clear hf
      subst f1
      subst f2
      exact V.iret (pc := 60) C rfl dX8_cell_60
    replace hf := ite_f c11 hf
    refine V.lsw (pc := 14) (off := 47) (t := 61) C dX8_cell_14 (by decide) (by show Op.lookupswitch.offset [(0, 26), (1, 35)] _ _ = _; rw [lv_osw c6 (by decide), lv_osw c11 (by decide)]; rfl) (by decide) ?_
    refine V.iconst (pc := 61) C dX8_cell_61 (v := (-1 : Int32)) (by decide) ?_
    obtain ⟨f1, f2⟩ := fin2 hf
    clear hf
    subst f1
    subst f2
    exact V.iret (pc := 62) C rfl dX8_cell_62
  replace hf := ite_t c5 hf
  refine V.iconst (pc := 11) C dX8_cell_11 (v := (-1 : Int32)) (by decide) ?_
  obtain ⟨f1, f2⟩ := fin2 hf
  clear hf
  subst f1
  subst f2
  exact V.iret (pc := 12) C rfl dX8_cell_12
