theorem dX9_readsKind_0 : decode cX9_readsKind 0 = .ok (.aload_n 0, 1) := by decide +kernel
theorem dX9_readsKind_1 : decode cX9_readsKind 1 = .ok (.iconst 0, 1) := by decide +kernel
theorem dX9_readsKind_2 : decode cX9_readsKind 2 = .ok (.putfield 93, 3) := by decide +kernel
theorem dX9_readsKind_5 : decode cX9_readsKind 5 = .ok (.iconst 0, 1) := by decide +kernel
theorem dX9_readsKind_6 : decode cX9_readsKind 6 = .ok (.istore_n 1, 1) := by decide +kernel
theorem dX9_readsKind_7 : decode cX9_readsKind 7 = .ok (.aload_n 0, 1) := by decide +kernel
theorem dX9_readsKind_8 : decode cX9_readsKind 8 = .ok (.iload_n 1, 1) := by decide +kernel
theorem dX9_readsKind_9 : decode cX9_readsKind 9 = .ok (.invokevirtual 145, 3) := by decide +kernel
theorem dX9_readsKind_12 : decode cX9_readsKind 12 = .ok (.ifCond .ne 5, 3) := by decide +kernel
theorem dX9_readsKind_15 : decode cX9_readsKind 15 = .ok (.iconst 0, 1) := by decide +kernel
theorem dX9_readsKind_16 : decode cX9_readsKind 16 = .ok (.ireturn, 1) := by decide +kernel
theorem dX9_readsKind_17 : decode cX9_readsKind 17 = .ok (.iinc 1 1, 3) := by decide +kernel
theorem dX9_readsKind_20 : decode cX9_readsKind 20 = .ok (.aload_n 0, 1) := by decide +kernel
theorem dX9_readsKind_21 : decode cX9_readsKind 21 = .ok (.bipush 44, 2) := by decide +kernel
theorem dX9_readsKind_23 : decode cX9_readsKind 23 = .ok (.invokevirtual 104, 3) := by decide +kernel
theorem dX9_readsKind_26 : decode cX9_readsKind 26 = .ok (.ifCond .ne (-19), 3) := by decide +kernel
theorem dX9_readsKind_29 : decode cX9_readsKind 29 = .ok (.aload_n 0, 1) := by decide +kernel
theorem dX9_readsKind_30 : decode cX9_readsKind 30 = .ok (.getfield 17, 3) := by decide +kernel
theorem dX9_readsKind_33 : decode cX9_readsKind 33 = .ok (.aload_n 0, 1) := by decide +kernel
theorem dX9_readsKind_34 : decode cX9_readsKind 34 = .ok (.getfield 119, 3) := by decide +kernel
theorem dX9_readsKind_37 : decode cX9_readsKind 37 = .ok (.iload_n 1, 1) := by decide +kernel
theorem dX9_readsKind_38 : decode cX9_readsKind 38 = .ok (.iastore, 1) := by decide +kernel
theorem dX9_readsKind_39 : decode cX9_readsKind 39 = .ok (.aload_n 0, 1) := by decide +kernel
theorem dX9_readsKind_40 : decode cX9_readsKind 40 = .ok (.invokevirtual 100, 3) := by decide +kernel
theorem dX9_readsKind_43 : decode cX9_readsKind 43 = .ok (.iconst (-1), 1) := by decide +kernel
theorem dX9_readsKind_44 : decode cX9_readsKind 44 = .ok (.if_icmp .eq 15, 3) := by decide +kernel
theorem dX9_readsKind_47 : decode cX9_readsKind 47 = .ok (.aload_n 0, 1) := by decide +kernel
theorem dX9_readsKind_48 : decode cX9_readsKind 48 = .ok (.iconst 1, 1) := by decide +kernel
theorem dX9_readsKind_49 : decode cX9_readsKind 49 = .ok (.aload_n 0, 1) := by decide +kernel
theorem dX9_readsKind_50 : decode cX9_readsKind 50 = .ok (.getfield 93, 3) := by decide +kernel
theorem dX9_readsKind_53 : decode cX9_readsKind 53 = .ok (.invokevirtual 108, 3) := by decide +kernel
theorem dX9_readsKind_56 : decode cX9_readsKind 56 = .ok (.ifCond .eq 7, 3) := by decide +kernel
theorem dX9_readsKind_59 : decode cX9_readsKind 59 = .ok (.iconst 1, 1) := by decide +kernel
theorem dX9_readsKind_60 : decode cX9_readsKind 60 = .ok (.goto 4, 3) := by decide +kernel
theorem dX9_readsKind_63 : decode cX9_readsKind 63 = .ok (.iconst 0, 1) := by decide +kernel
theorem dX9_readsKind_64 : decode cX9_readsKind 64 = .ok (.ireturn, 1) := by decide +kernel
def fX9_readsKind_7  : Nat → PH → Nat → Int32 → Option (Int32 × PH)
  | 0, _, _, _ => none
  | n + 1, g, v0, v1 =>
  (fX9_readsRule g v0 v1).bind fun q1 =>
  (if q1.1 = 0 then (some ((0 : Int32), q1.2)) else
  ((fX9_takes q1.2 v0 (44 : Int32)).bind fun q4 =>
  (if q4.1 = 0 then ((getR q4.2 v0 9 6).bind fun p7 =>
  ((getI q4.2 v0 9 7).bind fun x9 =>
  ((stI q4.2 p7 0 x9 (v1 + (1 : Int32))).bind fun g11 =>
  ((fX9_next g11 v0).bind fun q13 =>
  (if q13.1 = (-1 : Int32) then (some ((1 : Int32), q13.2)) else
  ((getI q13.2 v0 9 2).bind fun x16 =>
  ((fX9_fails q13.2 v0 (1 : Int32) x16).bind fun q18 =>
  (if q18.1 = 0 then (some ((0 : Int32), q18.2)) else
  (some ((1 : Int32), q18.2)))))))))) else
  (fX9_readsKind_7 n q4.2 v0 (v1 + (1 : Int32))))))
set_option maxHeartbeats 4000000 in
set_option maxRecDepth 100000 in
theorem bX9_readsKind_7 {K : HK} {E : HE} {r : Int32} {g' : PH}  (C : VC K E 2 cX9_readsKind RX9 (some .boolean))  : ∀ (n : Nat) (g : PH) (v0 : Nat) (v1 : Int32), fX9_readsKind_7  n g v0 v1 = some (r, g') → V K E (hRm 7 150 0 0) 2 (hZ K E (some (.int r)) g' 0 0) 0 0 (kS K) g 7 [(0, .ref v0), (1, .int v1)] [] := by
  intro n
  induction n with
  | zero =>
    intro g v0 v1 hf
    rw [fX9_readsKind_7] at hf
    cases hf
  | succ n ih =>
    intro g v0 v1 hf
    rw [fX9_readsKind_7] at hf
    refine V.aload_n (pc := 7) C dX9_readsKind_7 0 rfl ?_
    refine V.iload_n (pc := 8) C dX9_readsKind_8 1 rfl ?_
    replace hf := ob_some hf
    obtain ⟨q1, h2, hf⟩ := hf
    refine V.callV0i (pc := 9) C hyX9_readsRule wd_1193 (mX9_readsRule (r := q1.1) (g' := q1.2) K.2.1 E (kS K) h2) rfl rfl rfl (oX9_readsRule h2) ⟨Nat.le_of_ble_eq_true rfl, Nat.le_of_ble_eq_true rfl⟩ (Nat.le_of_ble_eq_true rfl) dX9_readsKind_9 ⟨Nat.zero_le _, Nat.zero_le _⟩ rfl ?_
    refine V.if_ne (pc := 12) (t := 17) C dX9_readsKind_12 (by decide) (fun c3 => ?_) (fun c3 => ?_)
    · replace hf := ite_f c3 hf
      refine V.iinc (pc := 17) (v := (v1 + (1 : Int32))) (L' := [(1, .int (v1 + (1 : Int32))), (0, .ref v0)]) C dX9_readsKind_17 1 rfl rfl (by decide) rfl ?_
      refine V.aload_n (pc := 20) C dX9_readsKind_20 1 rfl ?_
      refine V.bipush (pc := 21) C dX9_readsKind_21 (v := (44 : Int32)) (by decide) ?_
      replace hf := ob_some hf
      obtain ⟨q4, h5, hf⟩ := hf
      refine V.callV0i (pc := 23) C hyX9_takes wd_1232 (mX9_takes (r := q4.1) (g' := q4.2) K.2.1 E (kS K) h5) rfl rfl rfl (oX9_takes h5) ⟨Nat.le_of_ble_eq_true rfl, Nat.le_of_ble_eq_true rfl⟩ (Nat.le_of_ble_eq_true rfl) dX9_readsKind_23 ⟨Nat.zero_le _, Nat.zero_le _⟩ rfl ?_
      refine V.if_ne (pc := 26) (t := 7) C dX9_readsKind_26 (by decide) (fun c6 => ?_) (fun c6 => ?_)
      · replace hf := ite_f c6 hf
        refine V.sub (L' := [(0, .ref v0), (1, .int (v1 + (1 : Int32)))]) [1, 0] rfl ?_
        exact ih _ _ _ hf
      replace hf := ite_t c6 hf
      refine V.aload_n (pc := 29) C dX9_readsKind_29 1 rfl ?_
      replace hf := ob_some hf
      obtain ⟨p7, h8, hf⟩ := hf
      refine V.getR (pc := 30) C kX9 (k := 6) (by decide) wd_1056 h8 dX9_readsKind_30 ?_
      refine V.aload_n (pc := 33) C dX9_readsKind_33 1 rfl ?_
      replace hf := ob_some hf
      obtain ⟨x9, h10, hf⟩ := hf
      refine V.getI (pc := 34) C kX9 (k := 7) (by decide) wd_1057 h10 dX9_readsKind_34 ?_
      refine V.iload_n (pc := 37) C dX9_readsKind_37 0 rfl ?_
      replace hf := ob_some hf
      obtain ⟨g11, h12, hf⟩ := hf
      refine V.iast (pc := 38) C h12 dX9_readsKind_38 ?_
      refine V.aload_n (pc := 39) C dX9_readsKind_39 1 rfl ?_
      replace hf := ob_some hf
      obtain ⟨q13, h14, hf⟩ := hf
      refine V.callV0i (pc := 40) C hyX9_next wd_1197 (mX9_next (r := q13.1) (g' := q13.2) K.2.1 E (kS K) h14) rfl rfl rfl (oX9_next h14) ⟨Nat.le_of_ble_eq_true rfl, Nat.le_of_ble_eq_true rfl⟩ (Nat.le_of_ble_eq_true rfl) dX9_readsKind_40 ⟨Nat.zero_le _, Nat.zero_le _⟩ rfl ?_
      refine V.iconst (pc := 43) C dX9_readsKind_43 (v := (-1 : Int32)) (by decide) ?_
      refine V.icmp_eq (pc := 44) (t := 59) C dX9_readsKind_44 (by decide) (fun c15 => ?_) (fun c15 => ?_)
      · replace hf := ite_t c15 hf
        refine V.iconst (pc := 59) C dX9_readsKind_59 (v := (1 : Int32)) (by decide) ?_
        refine V.goto (pc := 60) (t := 64) C dX9_readsKind_60 (by decide) ?_
        obtain ⟨f1, f2⟩ := fin2 hf
        clear hf
        subst f1
        subst f2
        exact V.zret (pc := 64) C rfl rfl dX9_readsKind_64
      replace hf := ite_f c15 hf
      refine V.aload_n (pc := 47) C dX9_readsKind_47 1 rfl ?_
      refine V.iconst (pc := 48) C dX9_readsKind_48 (v := (1 : Int32)) (by decide) ?_
      refine V.aload_n (pc := 49) C dX9_readsKind_49 1 rfl ?_
      replace hf := ob_some hf
      obtain ⟨x16, h17, hf⟩ := hf
      refine V.getI (pc := 50) C kX9 (k := 2) (by decide) wd_1052 h17 dX9_readsKind_50 ?_
      replace hf := ob_some hf
      obtain ⟨q18, h19, hf⟩ := hf
      refine V.callV0i (pc := 53) C hyX9_fails wd_1208 (mX9_fails (r := q18.1) (g' := q18.2) K.2.1 E (kS K) h19) rfl rfl rfl (oX9_fails h19) ⟨Nat.le_of_ble_eq_true rfl, Nat.le_of_ble_eq_true rfl⟩ (Nat.le_of_ble_eq_true rfl) dX9_readsKind_53 ⟨Nat.zero_le _, Nat.zero_le _⟩ rfl ?_
      refine V.if_eq (pc := 56) (t := 63) C dX9_readsKind_56 (by decide) (fun c20 => ?_) (fun c20 => ?_)
      · replace hf := ite_t c20 hf
        refine V.iconst (pc := 63) C dX9_readsKind_63 (v := (0 : Int32)) (by decide) ?_
        obtain ⟨f1, f2⟩ := fin2 hf
        clear hf
        subst f1
        subst f2
        exact V.zret (pc := 64) C rfl rfl dX9_readsKind_64
      replace hf := ite_f c20 hf
      refine V.iconst (pc := 59) C dX9_readsKind_59 (v := (1 : Int32)) (by decide) ?_
      refine V.goto (pc := 60) (t := 64) C dX9_readsKind_60 (by decide) ?_
      obtain ⟨f1, f2⟩ := fin2 hf
      clear hf
      subst f1
      subst f2
      exact V.zret (pc := 64) C rfl rfl dX9_readsKind_64
    replace hf := ite_t c3 hf
    refine V.iconst (pc := 15) C dX9_readsKind_15 (v := (0 : Int32)) (by decide) ?_
    obtain ⟨f1, f2⟩ := fin2 hf
    clear hf
    subst f1
    subst f2
    exact V.zret (pc := 16) C rfl rfl dX9_readsKind_16
def fX9_readsKind (g : PH) (a0 : Nat) : Option (Int32 × PH) :=
  okb (isO g a0 9) ((putV g a0 9 2 (.int (0 : Int32))).bind fun g1 =>
  (fX9_readsKind_7 FUEL g1 a0 (0 : Int32)))
theorem oX9_readsKind {g : PH} {a0 : Nat} {q : (Int32 × PH)} (h : fX9_readsKind g a0 = some q) : isO g a0 9 = true := by unfold fX9_readsKind at h; exact (okb_some h).1
theorem hyX9_readsKind : hMet yX9_readsKind RX9 cX9_readsKind 2 (some .boolean) 0 := ⟨wd_1192, wd_1191, ws_50, wd_7, rfl, by decide +kernel, by decide +kernel, by decide +kernel⟩
set_option maxHeartbeats 4000000 in
set_option maxRecDepth 100000 in
theorem mX9_readsKind (l : Launch) (E : HE) (sz : Nat) {g g' : PH} {a0 : Nat} {r : Int32} (hf : fX9_readsKind g a0 = some (r, g')) : hM l E yX9_readsKind cX9_readsKind 2 (some .boolean) 7 150 0 0 sz g [.ref a0] (some (.int r)) g' := by
  refine hM.of (by decide) (Nat.le_of_ble_eq_true rfl) (fun K hl C hin hsz => ?_)
  subst hl
  subst hsz
  have C : VC K E 2 cX9_readsKind RX9 (some .boolean) := C
  unfold fX9_readsKind at hf
  replace hf := okb_some hf
  obtain ⟨ho, hf⟩ := hf
  refine V.start (L' := [(0, .ref a0)]) rfl ?_
  refine V.aload_n (pc := 0) C dX9_readsKind_0 0 rfl ?_
  refine V.iconst (pc := 1) C dX9_readsKind_1 (v := (0 : Int32)) (by decide) ?_
  replace hf := ob_some hf
  obtain ⟨g1, h2, hf⟩ := hf
  refine V.putX (pc := 2) C kX9 (k := 2) (by decide) wd_1052 rfl rfl rfl h2 dX9_readsKind_2 ?_
  refine V.iconst (pc := 5) C dX9_readsKind_5 (v := (0 : Int32)) (by decide) ?_
  refine V.istore_n (pc := 6) (L' := [(1, .int (0 : Int32)), (0, .ref a0)]) C dX9_readsKind_6 (by decide) rfl ?_
  refine V.sub (L' := [(0, .ref a0), (1, .int (0 : Int32))]) [1, 0] rfl ?_
  exact bX9_readsKind_7 C  _ _ _ _ hf
theorem dX9_kind_0 : decode cX9_kind 0 = .ok (.aload_n 0, 1) := by decide +kernel
theorem dX9_kind_1 : decode cX9_kind 1 = .ok (.getfield 119, 3) := by decide +kernel
theorem dX9_kind_4 : decode cX9_kind 4 = .ok (.bipush 8, 2) := by decide +kernel
theorem dX9_kind_6 : decode cX9_kind 6 = .ok (.if_icmp .eq 12, 3) := by decide +kernel
theorem dX9_kind_9 : decode cX9_kind 9 = .ok (.aload_n 0, 1) := by decide +kernel
theorem dX9_kind_10 : decode cX9_kind 10 = .ok (.getfield 82, 3) := by decide +kernel
theorem dX9_kind_13 : decode cX9_kind 13 = .ok (.bipush 100, 2) := by decide +kernel
theorem dX9_kind_15 : decode cX9_kind 15 = .ok (.if_icmp .le 5, 3) := by decide +kernel
theorem dX9_kind_18 : decode cX9_kind 18 = .ok (.iconst (-1), 1) := by decide +kernel
theorem dX9_kind_19 : decode cX9_kind 19 = .ok (.ireturn, 1) := by decide +kernel
theorem dX9_kind_20 : decode cX9_kind 20 = .ok (.aload_n 0, 1) := by decide +kernel
theorem dX9_kind_21 : decode cX9_kind 21 = .ok (.invokevirtual 148, 3) := by decide +kernel
theorem dX9_kind_24 : decode cX9_kind 24 = .ok (.istore_n 1, 1) := by decide +kernel
theorem dX9_kind_25 : decode cX9_kind 25 = .ok (.aload_n 0, 1) := by decide +kernel
theorem dX9_kind_26 : decode cX9_kind 26 = .ok (.iconst 0, 1) := by decide +kernel
theorem dX9_kind_27 : decode cX9_kind 27 = .ok (.putfield 82, 3) := by decide +kernel
theorem dX9_kind_30 : decode cX9_kind 30 = .ok (.iload_n 1, 1) := by decide +kernel
theorem dX9_kind_31 : decode cX9_kind 31 = .ok (.ifCond .ne 11, 3) := by decide +kernel
theorem dX9_kind_34 : decode cX9_kind 34 = .ok (.bipush (-2), 2) := by decide +kernel
theorem dX9_kind_36 : decode cX9_kind 36 = .ok (.aload_n 0, 1) := by decide +kernel
theorem dX9_kind_37 : decode cX9_kind 37 = .ok (.getfield 90, 3) := by decide +kernel
theorem dX9_kind_40 : decode cX9_kind 40 = .ok (.isub, 1) := by decide +kernel
theorem dX9_kind_41 : decode cX9_kind 41 = .ok (.ireturn, 1) := by decide +kernel
theorem dX9_kind_42 : decode cX9_kind 42 = .ok (.aload_n 0, 1) := by decide +kernel
theorem dX9_kind_43 : decode cX9_kind 43 = .ok (.dup, 1) := by decide +kernel
theorem dX9_kind_44 : decode cX9_kind 44 = .ok (.getfield 119, 3) := by decide +kernel
theorem dX9_kind_47 : decode cX9_kind 47 = .ok (.iconst 1, 1) := by decide +kernel
theorem dX9_kind_48 : decode cX9_kind 48 = .ok (.iadd, 1) := by decide +kernel
theorem dX9_kind_49 : decode cX9_kind 49 = .ok (.putfield 119, 3) := by decide +kernel
theorem dX9_kind_52 : decode cX9_kind 52 = .ok (.aload_n 0, 1) := by decide +kernel
theorem dX9_kind_53 : decode cX9_kind 53 = .ok (.getfield 119, 3) := by decide +kernel
theorem dX9_kind_56 : decode cX9_kind 56 = .ok (.iconst 1, 1) := by decide +kernel
theorem dX9_kind_57 : decode cX9_kind 57 = .ok (.isub, 1) := by decide +kernel
theorem dX9_kind_58 : decode cX9_kind 58 = .ok (.ireturn, 1) := by decide +kernel
def fX9_kind (g : PH) (a0 : Nat) : Option (Int32 × PH) :=
  okb (isO g a0 9) ((getI g a0 9 7).bind fun x1 =>
  (if x1 = (8 : Int32) then (some ((-1 : Int32), g)) else
  ((getI g a0 9 1).bind fun x4 =>
  (if x4 ≤ (100 : Int32) then ((fX9_readsKind g a0).bind fun q7 =>
  ((putV q7.2 a0 9 1 (.int (0 : Int32))).bind fun g9 =>
  (if q7.1 = 0 then ((getI g9 a0 9 3).bind fun x18 =>
  (some (((-2 : Int32) - x18), g9))) else
  ((getI g9 a0 9 7).bind fun x12 =>
  ((putV g9 a0 9 7 (.int (x12 + (1 : Int32)))).bind fun g14 =>
  ((getI g14 a0 9 7).bind fun x16 =>
  (some ((x16 - (1 : Int32)), g14)))))))) else
  (some ((-1 : Int32), g))))))
theorem oX9_kind {g : PH} {a0 : Nat} {q : (Int32 × PH)} (h : fX9_kind g a0 = some q) : isO g a0 9 = true := by unfold fX9_kind at h; exact (okb_some h).1
theorem hyX9_kind : hMet yX9_kind RX9 cX9_kind 2 (some .int) 0 := ⟨wd_1188, wd_1186, wd_1187, wd_7, rfl, by decide +kernel, by decide +kernel, by decide +kernel⟩
set_option maxHeartbeats 4000000 in
set_option maxRecDepth 100000 in
theorem mX9_kind (l : Launch) (E : HE) (sz : Nat) {g g' : PH} {a0 : Nat} {r : Int32} (hf : fX9_kind g a0 = some (r, g')) : hM l E yX9_kind cX9_kind 2 (some .int) 8 171 0 0 sz g [.ref a0] (some (.int r)) g' := by
  refine hM.of (by decide) (Nat.le_of_ble_eq_true rfl) (fun K hl C hin hsz => ?_)
  subst hl
  subst hsz
  have C : VC K E 2 cX9_kind RX9 (some .int) := C
  unfold fX9_kind at hf
  replace hf := okb_some hf
  obtain ⟨ho, hf⟩ := hf
  refine V.start (L' := [(0, .ref a0)]) rfl ?_
  refine V.aload_n (pc := 0) C dX9_kind_0 0 rfl ?_
  replace hf := ob_some hf
  obtain ⟨x1, h2, hf⟩ := hf
  refine V.getI (pc := 1) C kX9 (k := 7) (by decide) wd_1057 h2 dX9_kind_1 ?_
  refine V.bipush (pc := 4) C dX9_kind_4 (v := (8 : Int32)) (by decide) ?_
  refine V.icmp_eq (pc := 6) (t := 18) C dX9_kind_6 (by decide) (fun c3 => ?_) (fun c3 => ?_)
  · replace hf := ite_t c3 hf
    refine V.iconst (pc := 18) C dX9_kind_18 (v := (-1 : Int32)) (by decide) ?_
    obtain ⟨f1, f2⟩ := fin2 hf
    clear hf
    subst f1
    subst f2
    exact V.iret (pc := 19) C rfl dX9_kind_19
  replace hf := ite_f c3 hf
  refine V.aload_n (pc := 9) C dX9_kind_9 0 rfl ?_
  replace hf := ob_some hf
  obtain ⟨x4, h5, hf⟩ := hf
  refine V.getI (pc := 10) C kX9 (k := 1) (by decide) wd_1051 h5 dX9_kind_10 ?_
  refine V.bipush (pc := 13) C dX9_kind_13 (v := (100 : Int32)) (by decide) ?_
  refine V.icmp_le (pc := 15) (t := 20) C dX9_kind_15 (by decide) (fun c6 => ?_) (fun c6 => ?_)
  · replace hf := ite_t c6 hf
    refine V.aload_n (pc := 20) C dX9_kind_20 0 rfl ?_
    replace hf := ob_some hf
    obtain ⟨q7, h8, hf⟩ := hf
    refine V.callV0i (pc := 21) C hyX9_readsKind wd_1189 (mX9_readsKind (r := q7.1) (g' := q7.2) K.2.1 E (kS K) h8) rfl rfl rfl (oX9_readsKind h8) ⟨Nat.le_of_ble_eq_true rfl, Nat.le_of_ble_eq_true rfl⟩ (Nat.le_of_ble_eq_true rfl) dX9_kind_21 ⟨Nat.zero_le _, Nat.zero_le _⟩ rfl ?_
    refine V.istore_n (pc := 24) (L' := [(1, .int q7.1), (0, .ref a0)]) C dX9_kind_24 (by decide) rfl ?_
    refine V.aload_n (pc := 25) C dX9_kind_25 1 rfl ?_
    refine V.iconst (pc := 26) C dX9_kind_26 (v := (0 : Int32)) (by decide) ?_
    replace hf := ob_some hf
    obtain ⟨g9, h10, hf⟩ := hf
    refine V.putX (pc := 27) C kX9 (k := 1) (by decide) wd_1051 rfl rfl rfl h10 dX9_kind_27 ?_
    refine V.iload_n (pc := 30) C dX9_kind_30 0 rfl ?_
    refine V.if_ne (pc := 31) (t := 42) C dX9_kind_31 (by decide) (fun c11 => ?_) (fun c11 => ?_)
    · replace hf := ite_f c11 hf
      refine V.aload_n (pc := 42) C dX9_kind_42 1 rfl ?_
      refine V.dup (pc := 43) C dX9_kind_43 rfl ?_
      replace hf := ob_some hf
      obtain ⟨x12, h13, hf⟩ := hf
      refine V.getI (pc := 44) C kX9 (k := 7) (by decide) wd_1057 h13 dX9_kind_44 ?_
      refine V.iconst (pc := 47) C dX9_kind_47 (v := (1 : Int32)) (by decide) ?_
      refine V.iadd (pc := 48) C dX9_kind_48 ?_
      replace hf := ob_some hf
      obtain ⟨g14, h15, hf⟩ := hf
      refine V.putX (pc := 49) C kX9 (k := 7) (by decide) wd_1057 rfl rfl rfl h15 dX9_kind_49 ?_
      refine V.aload_n (pc := 52) C dX9_kind_52 1 rfl ?_
      replace hf := ob_some hf
      obtain ⟨x16, h17, hf⟩ := hf
      refine V.getI (pc := 53) C kX9 (k := 7) (by decide) wd_1057 h17 dX9_kind_53 ?_
      refine V.iconst (pc := 56) C dX9_kind_56 (v := (1 : Int32)) (by decide) ?_
      refine V.isub (pc := 57) C dX9_kind_57 ?_
      obtain ⟨f1, f2⟩ := fin2 hf
      clear hf
      subst f1
      subst f2
      exact V.iret (pc := 58) C rfl dX9_kind_58
    replace hf := ite_t c11 hf
    refine V.bipush (pc := 34) C dX9_kind_34 (v := (-2 : Int32)) (by decide) ?_
    refine V.aload_n (pc := 36) C dX9_kind_36 1 rfl ?_
    replace hf := ob_some hf
    obtain ⟨x18, h19, hf⟩ := hf
    refine V.getI (pc := 37) C kX9 (k := 3) (by decide) wd_1053 h19 dX9_kind_37 ?_
    refine V.isub (pc := 40) C (x := (-2 : Int32)) (y := x18) dX9_kind_40 ?_
    obtain ⟨f1, f2⟩ := fin2 hf
    clear hf
    subst f1
    subst f2
    exact V.iret (pc := 41) C rfl dX9_kind_41
  replace hf := ite_f c6 hf
  refine V.iconst (pc := 18) C dX9_kind_18 (v := (-1 : Int32)) (by decide) ?_
  obtain ⟨f1, f2⟩ := fin2 hf
  clear hf
  subst f1
  subst f2
  exact V.iret (pc := 19) C rfl dX9_kind_19
theorem dX9_elementAt_0 : decode cX9_elementAt 0 = .ok (.aload_n 0, 1) := by decide +kernel
theorem dX9_elementAt_1 : decode cX9_elementAt 1 = .ok (.getfield 20, 3) := by decide +kernel
theorem dX9_elementAt_4 : decode cX9_elementAt 4 = .ok (.bipush 64, 2) := by decide +kernel
theorem dX9_elementAt_6 : decode cX9_elementAt 6 = .ok (.iload_n 1, 1) := by decide +kernel
theorem dX9_elementAt_7 : decode cX9_elementAt 7 = .ok (.imul, 1) := by decide +kernel
theorem dX9_elementAt_8 : decode cX9_elementAt 8 = .ok (.bipush 8, 2) := by decide +kernel
theorem dX9_elementAt_10 : decode cX9_elementAt 10 = .ok (.iload_n 2, 1) := by decide +kernel
theorem dX9_elementAt_11 : decode cX9_elementAt 11 = .ok (.imul, 1) := by decide +kernel
theorem dX9_elementAt_12 : decode cX9_elementAt 12 = .ok (.iadd, 1) := by decide +kernel
theorem dX9_elementAt_13 : decode cX9_elementAt 13 = .ok (.iload_n 3, 1) := by decide +kernel
theorem dX9_elementAt_14 : decode cX9_elementAt 14 = .ok (.iadd, 1) := by decide +kernel
theorem dX9_elementAt_15 : decode cX9_elementAt 15 = .ok (.iaload, 1) := by decide +kernel
theorem dX9_elementAt_16 : decode cX9_elementAt 16 = .ok (.ireturn, 1) := by decide +kernel
def fX9_elementAt (g : PH) (a0 : Nat) (a1 : Int32) (a2 : Int32) (a3 : Int32) : Option (Int32 × PH) :=
  okb (isO g a0 9) ((getR g a0 9 8).bind fun p1 =>
  ((ldI g p1 0 ((((64 : Int32) * a1) + ((8 : Int32) * a2)) + a3)).bind fun x3 =>
  (some (x3, g))))
theorem oX9_elementAt {g : PH} {a0 : Nat} {a1 : Int32} {a2 : Int32} {a3 : Int32} {q : (Int32 × PH)} (h : fX9_elementAt g a0 a1 a2 a3 = some q) : isO g a0 9 = true := by unfold fX9_elementAt at h; exact (okb_some h).1
theorem hyX9_elementAt : hMet yX9_elementAt RX9 cX9_elementAt 4 (some .int) 3 := ⟨wd_1295, wd_1294, ws_71, wd_7, rfl, by decide +kernel, by decide +kernel, by decide +kernel⟩
set_option maxHeartbeats 4000000 in
set_option maxRecDepth 100000 in
theorem mX9_elementAt (l : Launch) (E : HE) (sz : Nat) {g g' : PH} {a0 : Nat} {a1 : Int32} {a2 : Int32} {a3 : Int32} {r : Int32} (hf : fX9_elementAt g a0 a1 a2 a3 = some (r, g')) : hM l E yX9_elementAt cX9_elementAt 4 (some .int) 0 0 0 0 sz g [.ref a0, .int a1, .int a2, .int a3] (some (.int r)) g' := by
  refine hM.of (by decide) (Nat.le_of_ble_eq_true rfl) (fun K hl C hin hsz => ?_)
  subst hl
  subst hsz
  have C : VC K E 4 cX9_elementAt RX9 (some .int) := C
  unfold fX9_elementAt at hf
  replace hf := okb_some hf
  obtain ⟨ho, hf⟩ := hf
  refine V.start (L' := [(0, .ref a0), (1, .int a1), (2, .int a2), (3, .int a3)]) rfl ?_
  refine V.aload_n (pc := 0) C dX9_elementAt_0 0 rfl ?_
  replace hf := ob_some hf
  obtain ⟨p1, h2, hf⟩ := hf
  refine V.getR (pc := 1) C kX9 (k := 8) (by decide) wd_1058 h2 dX9_elementAt_1 ?_
  refine V.bipush (pc := 4) C dX9_elementAt_4 (v := (64 : Int32)) (by decide) ?_
  refine V.iload_n (pc := 6) C dX9_elementAt_6 1 rfl ?_
  refine V.imul (pc := 7) C dX9_elementAt_7 ?_
  refine V.bipush (pc := 8) C dX9_elementAt_8 (v := (8 : Int32)) (by decide) ?_
  refine V.iload_n (pc := 10) C dX9_elementAt_10 2 rfl ?_
  refine V.imul (pc := 11) C dX9_elementAt_11 ?_
  refine V.iadd (pc := 12) C dX9_elementAt_12 ?_
  refine V.iload_n (pc := 13) C dX9_elementAt_13 3 rfl ?_
  refine V.iadd (pc := 14) C dX9_elementAt_14 ?_
  replace hf := ob_some hf
  obtain ⟨x3, h4, hf⟩ := hf
  refine V.iald (pc := 15) C h4 dX9_elementAt_15 ?_
  obtain ⟨f1, f2⟩ := fin2 hf
  clear hf
  subst f1
  subst f2
  exact V.iret (pc := 16) C rfl dX9_elementAt_16
theorem dX9_wayHere_0 : decode cX9_wayHere 0 = .ok (.aload_n 0, 1) := by decide +kernel
theorem dX9_wayHere_1 : decode cX9_wayHere 1 = .ok (.invokevirtual 100, 3) := by decide +kernel
theorem dX9_wayHere_4 : decode cX9_wayHere 4 = .ok (.pop, 1) := by decide +kernel
theorem dX9_wayHere_5 : decode cX9_wayHere 5 = .ok (.iconst 0, 1) := by decide +kernel
theorem dX9_wayHere_6 : decode cX9_wayHere 6 = .ok (.istore_n 1, 1) := by decide +kernel
theorem dX9_wayHere_7 : decode cX9_wayHere 7 = .ok (.iload_n 1, 1) := by decide +kernel
theorem dX9_wayHere_8 : decode cX9_wayHere 8 = .ok (.iconst 3, 1) := by decide +kernel
theorem dX9_wayHere_9 : decode cX9_wayHere 9 = .ok (.if_icmp .ge 91, 3) := by decide +kernel
theorem dX9_wayHere_12 : decode cX9_wayHere 12 = .ok (.iconst 0, 1) := by decide +kernel
theorem dX9_wayHere_13 : decode cX9_wayHere 13 = .ok (.istore_n 2, 1) := by decide +kernel
theorem dX9_wayHere_14 : decode cX9_wayHere 14 = .ok (.aload_n 0, 1) := by decide +kernel
theorem dX9_wayHere_15 : decode cX9_wayHere 15 = .ok (.getfield 29, 3) := by decide +kernel
theorem dX9_wayHere_18 : decode cX9_wayHere 18 = .ok (.iconst 5, 1) := by decide +kernel
theorem dX9_wayHere_19 : decode cX9_wayHere 19 = .ok (.iload_n 1, 1) := by decide +kernel
theorem dX9_wayHere_20 : decode cX9_wayHere 20 = .ok (.imul, 1) := by decide +kernel
theorem dX9_wayHere_21 : decode cX9_wayHere 21 = .ok (.iload_n 2, 1) := by decide +kernel
theorem dX9_wayHere_22 : decode cX9_wayHere 22 = .ok (.iadd, 1) := by decide +kernel
theorem dX9_wayHere_23 : decode cX9_wayHere 23 = .ok (.baload, 1) := by decide +kernel
theorem dX9_wayHere_24 : decode cX9_wayHere 24 = .ok (.ifCond .eq 32, 3) := by decide +kernel
theorem dX9_wayHere_27 : decode cX9_wayHere 27 = .ok (.aload_n 0, 1) := by decide +kernel
theorem dX9_wayHere_28 : decode cX9_wayHere 28 = .ok (.aload_n 0, 1) := by decide +kernel
theorem dX9_wayHere_29 : decode cX9_wayHere 29 = .ok (.getfield 93, 3) := by decide +kernel
theorem dX9_wayHere_32 : decode cX9_wayHere 32 = .ok (.iload_n 2, 1) := by decide +kernel
theorem dX9_wayHere_33 : decode cX9_wayHere 33 = .ok (.iadd, 1) := by decide +kernel
theorem dX9_wayHere_34 : decode cX9_wayHere 34 = .ok (.invokevirtual 96, 3) := by decide +kernel
theorem dX9_wayHere_37 : decode cX9_wayHere 37 = .ok (.aload_n 0, 1) := by decide +kernel
theorem dX9_wayHere_38 : decode cX9_wayHere 38 = .ok (.getfield 29, 3) := by decide +kernel
theorem dX9_wayHere_41 : decode cX9_wayHere 41 = .ok (.iconst 5, 1) := by decide +kernel
theorem dX9_wayHere_42 : decode cX9_wayHere 42 = .ok (.iload_n 1, 1) := by decide +kernel
theorem dX9_wayHere_43 : decode cX9_wayHere 43 = .ok (.imul, 1) := by decide +kernel
theorem dX9_wayHere_44 : decode cX9_wayHere 44 = .ok (.iload_n 2, 1) := by decide +kernel
theorem dX9_wayHere_45 : decode cX9_wayHere 45 = .ok (.iadd, 1) := by decide +kernel
theorem dX9_wayHere_46 : decode cX9_wayHere 46 = .ok (.baload, 1) := by decide +kernel
theorem dX9_wayHere_47 : decode cX9_wayHere 47 = .ok (.if_icmp .ne 9, 3) := by decide +kernel
theorem dX9_wayHere_50 : decode cX9_wayHere 50 = .ok (.iinc 2 1, 3) := by decide +kernel
theorem dX9_wayHere_53 : decode cX9_wayHere 53 = .ok (.goto (-39), 3) := by decide +kernel
theorem dX9_wayHere_56 : decode cX9_wayHere 56 = .ok (.aload_n 0, 1) := by decide +kernel
theorem dX9_wayHere_57 : decode cX9_wayHere 57 = .ok (.getfield 29, 3) := by decide +kernel
theorem dX9_wayHere_60 : decode cX9_wayHere 60 = .ok (.iconst 5, 1) := by decide +kernel
theorem dX9_wayHere_61 : decode cX9_wayHere 61 = .ok (.iload_n 1, 1) := by decide +kernel
theorem dX9_wayHere_62 : decode cX9_wayHere 62 = .ok (.imul, 1) := by decide +kernel
theorem dX9_wayHere_63 : decode cX9_wayHere 63 = .ok (.iload_n 2, 1) := by decide +kernel
theorem dX9_wayHere_64 : decode cX9_wayHere 64 = .ok (.iadd, 1) := by decide +kernel
theorem dX9_wayHere_65 : decode cX9_wayHere 65 = .ok (.baload, 1) := by decide +kernel
theorem dX9_wayHere_66 : decode cX9_wayHere 66 = .ok (.ifCond .ne 28, 3) := by decide +kernel
theorem dX9_wayHere_69 : decode cX9_wayHere 69 = .ok (.aload_n 0, 1) := by decide +kernel
theorem dX9_wayHere_70 : decode cX9_wayHere 70 = .ok (.aload_n 0, 1) := by decide +kernel
theorem dX9_wayHere_71 : decode cX9_wayHere 71 = .ok (.getfield 93, 3) := by decide +kernel
theorem dX9_wayHere_74 : decode cX9_wayHere 74 = .ok (.iload_n 2, 1) := by decide +kernel
theorem dX9_wayHere_75 : decode cX9_wayHere 75 = .ok (.iadd, 1) := by decide +kernel
theorem dX9_wayHere_76 : decode cX9_wayHere 76 = .ok (.invokevirtual 96, 3) := by decide +kernel
theorem dX9_wayHere_79 : decode cX9_wayHere 79 = .ok (.i2l, 1) := by decide +kernel
theorem dX9_wayHere_80 : decode cX9_wayHere 80 = .ok (.ldc2_w 152, 3) := by decide +kernel
theorem dX9_wayHere_83 : decode cX9_wayHere 83 = .ok (.ldc2_w 154, 3) := by decide +kernel
theorem dX9_wayHere_86 : decode cX9_wayHere 86 = .ok (.invokestatic 86, 3) := by decide +kernel
theorem dX9_wayHere_89 : decode cX9_wayHere 89 = .ok (.ifCond .ne 5, 3) := by decide +kernel
theorem dX9_wayHere_92 : decode cX9_wayHere 92 = .ok (.iload_n 1, 1) := by decide +kernel
theorem dX9_wayHere_93 : decode cX9_wayHere 93 = .ok (.ireturn, 1) := by decide +kernel
theorem dX9_wayHere_94 : decode cX9_wayHere 94 = .ok (.iinc 1 1, 3) := by decide +kernel
theorem dX9_wayHere_97 : decode cX9_wayHere 97 = .ok (.goto (-90), 3) := by decide +kernel
theorem dX9_wayHere_100 : decode cX9_wayHere 100 = .ok (.iconst (-1), 1) := by decide +kernel
theorem dX9_wayHere_101 : decode cX9_wayHere 101 = .ok (.ireturn, 1) := by decide +kernel
def fX9_wayHere_94 (k7 : PH → Nat → Int32 → Option (Int32 × PH)) (g : PH) (v0 : Nat) (v1 : Int32) : Option (Int32 × PH) :=
  k7 g v0 (v1 + (1 : Int32))
set_option maxHeartbeats 4000000 in
set_option maxRecDepth 100000 in
theorem bX9_wayHere_94 {K : HK} {E : HE} {r : Int32} {g' : PH} {k7 : PH → Nat → Int32 → Option (Int32 × PH)} (C : VC K E 3 cX9_wayHere RX9 (some .int)) (hk7 : ∀ (g : PH) (v0 : Nat) (v1 : Int32), k7 g v0 v1 = some (r, g') → V K E (hRm 2 41 0 0) 3 (hZ K E (some (.int r)) g' 0 0) 0 0 (kS K) g 7 [(0, .ref v0), (1, .int v1)] []) {g : PH} {v0 : Nat} {v1 : Int32} (hf : fX9_wayHere_94 k7 g v0 v1 = some (r, g')) : V K E (hRm 2 41 0 0) 3 (hZ K E (some (.int r)) g' 0 0) 0 0 (kS K) g 94 [(0, .ref v0), (1, .int v1)] [] := by
  unfold fX9_wayHere_94 at hf
  refine V.iinc (pc := 94) (v := (v1 + (1 : Int32))) (L' := [(1, .int (v1 + (1 : Int32))), (0, .ref v0)]) C dX9_wayHere_94 1 rfl rfl (by decide) rfl ?_
  refine V.goto (pc := 97) (t := 7) C dX9_wayHere_97 (by decide) ?_
  refine V.sub (L' := [(0, .ref v0), (1, .int (v1 + (1 : Int32)))]) [1, 0] rfl ?_
  exact hk7 _ _ _ hf
def fX9_wayHere_56 (k7 : PH → Nat → Int32 → Option (Int32 × PH)) (g : PH) (v0 : Nat) (v1 : Int32) (v2 : Int32) : Option (Int32 × PH) :=
  (getR g v0 9 12).bind fun p1 =>
  ((ldI g p1 1 (((5 : Int32) * v1) + v2)).bind fun x3 =>
  (if x3 = 0 then ((getI g v0 9 2).bind fun x6 =>
  ((fX9_byteAt g v0 (x6 + v2)).bind fun q8 =>
  ((fX9_isIn q8.2 q8.1.toInt64 (97 : Int64) (122 : Int64)).bind fun q10 =>
  (if q10.1 = 0 then (some (v1, q10.2)) else
  (fX9_wayHere_94 (k7) q10.2 v0 v1))))) else
  (fX9_wayHere_94 (k7) g v0 v1)))
set_option maxHeartbeats 4000000 in
set_option maxRecDepth 100000 in
theorem bX9_wayHere_56 {K : HK} {E : HE} {r : Int32} {g' : PH} {k7 : PH → Nat → Int32 → Option (Int32 × PH)} (C : VC K E 3 cX9_wayHere RX9 (some .int)) (hk7 : ∀ (g : PH) (v0 : Nat) (v1 : Int32), k7 g v0 v1 = some (r, g') → V K E (hRm 2 41 0 0) 3 (hZ K E (some (.int r)) g' 0 0) 0 0 (kS K) g 7 [(0, .ref v0), (1, .int v1)] []) {g : PH} {v0 : Nat} {v1 : Int32} {v2 : Int32} (hf : fX9_wayHere_56 k7 g v0 v1 v2 = some (r, g')) : V K E (hRm 2 41 0 0) 3 (hZ K E (some (.int r)) g' 0 0) 0 0 (kS K) g 56 [(0, .ref v0), (1, .int v1), (2, .int v2)] [] := by
  unfold fX9_wayHere_56 at hf
  refine V.aload_n (pc := 56) C dX9_wayHere_56 0 rfl ?_
  replace hf := ob_some hf
  obtain ⟨p1, h2, hf⟩ := hf
  refine V.getR (pc := 57) C kX9 (k := 12) (by decide) wd_1062 h2 dX9_wayHere_57 ?_
  refine V.iconst (pc := 60) C dX9_wayHere_60 (v := (5 : Int32)) (by decide) ?_
  refine V.iload_n (pc := 61) C dX9_wayHere_61 1 rfl ?_
  refine V.imul (pc := 62) C dX9_wayHere_62 ?_
  refine V.iload_n (pc := 63) C dX9_wayHere_63 2 rfl ?_
  refine V.iadd (pc := 64) C dX9_wayHere_64 ?_
  replace hf := ob_some hf
  obtain ⟨x3, h4, hf⟩ := hf
  refine V.bald (pc := 65) C h4 dX9_wayHere_65 ?_
  refine V.if_ne (pc := 66) (t := 94) C dX9_wayHere_66 (by decide) (fun c5 => ?_) (fun c5 => ?_)
  · replace hf := ite_f c5 hf
    refine V.sub (L' := [(0, .ref v0), (1, .int v1)]) [0, 1] rfl ?_
    exact bX9_wayHere_94 C hk7 hf
  replace hf := ite_t c5 hf
  refine V.aload_n (pc := 69) C dX9_wayHere_69 0 rfl ?_
  refine V.aload_n (pc := 70) C dX9_wayHere_70 0 rfl ?_
  replace hf := ob_some hf
  obtain ⟨x6, h7, hf⟩ := hf
  refine V.getI (pc := 71) C kX9 (k := 2) (by decide) wd_1052 h7 dX9_wayHere_71 ?_
  refine V.iload_n (pc := 74) C dX9_wayHere_74 2 rfl ?_
  refine V.iadd (pc := 75) C dX9_wayHere_75 ?_
  replace hf := ob_some hf
  obtain ⟨q8, h9, hf⟩ := hf
  refine V.callV0i (pc := 76) C hyX9_byteAt wd_1201 (mX9_byteAt (r := q8.1) (g' := q8.2) K.2.1 E (kS K) h9) rfl rfl rfl (oX9_byteAt h9) ⟨Nat.le_of_ble_eq_true rfl, Nat.le_of_ble_eq_true rfl⟩ (Nat.le_of_ble_eq_true rfl) dX9_wayHere_76 ⟨Nat.zero_le _, Nat.zero_le _⟩ rfl ?_
  refine V.i2l (pc := 79) C dX9_wayHere_79 ?_
  refine V.ldc2 (pc := 80) C wd_1260 dX9_wayHere_80 ?_
  refine V.ldc2 (pc := 83) C wd_1261 dX9_wayHere_83 ?_
  replace hf := ob_some hf
  obtain ⟨q10, h11, hf⟩ := hf
  refine V.callS0i (pc := 86) C hyX9_isIn wd_1182 (mX9_isIn (r := q10.1) (g' := q10.2) K.2.1 E (kS K) h11) rfl ⟨Nat.le_of_ble_eq_true rfl, Nat.le_of_ble_eq_true rfl⟩ (Nat.le_of_ble_eq_true rfl) dX9_wayHere_86 ⟨Nat.zero_le _, Nat.zero_le _⟩ rfl ?_
  refine V.if_ne (pc := 89) (t := 94) C dX9_wayHere_89 (by decide) (fun c12 => ?_) (fun c12 => ?_)
  · replace hf := ite_f c12 hf
    refine V.sub (L' := [(0, .ref v0), (1, .int v1)]) [0, 1] rfl ?_
    exact bX9_wayHere_94 C hk7 hf
  replace hf := ite_t c12 hf
  refine V.iload_n (pc := 92) C dX9_wayHere_92 1 rfl ?_
  obtain ⟨f1, f2⟩ := fin2 hf
  clear hf
  subst f1
  subst f2
  exact V.iret (pc := 93) C rfl dX9_wayHere_93
def fX9_wayHere_14 (k7 : PH → Nat → Int32 → Option (Int32 × PH)) : Nat → PH → Nat → Int32 → Int32 → Option (Int32 × PH)
  | 0, _, _, _, _ => none
  | n + 1, g, v0, v1, v2 =>
  (getR g v0 9 12).bind fun p1 =>
  ((ldI g p1 1 (((5 : Int32) * v1) + v2)).bind fun x3 =>
  (if x3 = 0 then (fX9_wayHere_56 (k7) g v0 v1 v2) else
  ((getI g v0 9 2).bind fun x6 =>
  ((fX9_byteAt g v0 (x6 + v2)).bind fun q8 =>
  ((getR q8.2 v0 9 12).bind fun p10 =>
  ((ldI q8.2 p10 1 (((5 : Int32) * v1) + v2)).bind fun x12 =>
  (if q8.1 = x12 then (fX9_wayHere_14 k7 n q8.2 v0 v1 (v2 + (1 : Int32))) else
  (fX9_wayHere_56 (k7) q8.2 v0 v1 v2))))))))
set_option maxHeartbeats 4000000 in
set_option maxRecDepth 100000 in
theorem bX9_wayHere_14 {K : HK} {E : HE} {r : Int32} {g' : PH} {k7 : PH → Nat → Int32 → Option (Int32 × PH)} (C : VC K E 3 cX9_wayHere RX9 (some .int)) (hk7 : ∀ (g : PH) (v0 : Nat) (v1 : Int32), k7 g v0 v1 = some (r, g') → V K E (hRm 2 41 0 0) 3 (hZ K E (some (.int r)) g' 0 0) 0 0 (kS K) g 7 [(0, .ref v0), (1, .int v1)] []) : ∀ (n : Nat) (g : PH) (v0 : Nat) (v1 : Int32) (v2 : Int32), fX9_wayHere_14 k7 n g v0 v1 v2 = some (r, g') → V K E (hRm 2 41 0 0) 3 (hZ K E (some (.int r)) g' 0 0) 0 0 (kS K) g 14 [(0, .ref v0), (1, .int v1), (2, .int v2)] [] := by
  intro n
  induction n with
  | zero =>
    intro g v0 v1 v2 hf
    rw [fX9_wayHere_14] at hf
    cases hf
  | succ n ih =>
    intro g v0 v1 v2 hf
    rw [fX9_wayHere_14] at hf
    refine V.aload_n (pc := 14) C dX9_wayHere_14 0 rfl ?_
    replace hf := ob_some hf
    obtain ⟨p1, h2, hf⟩ := hf
    refine V.getR (pc := 15) C kX9 (k := 12) (by decide) wd_1062 h2 dX9_wayHere_15 ?_
    refine V.iconst (pc := 18) C dX9_wayHere_18 (v := (5 : Int32)) (by decide) ?_
    refine V.iload_n (pc := 19) C dX9_wayHere_19 1 rfl ?_
    refine V.imul (pc := 20) C dX9_wayHere_20 ?_
    refine V.iload_n (pc := 21) C dX9_wayHere_21 2 rfl ?_
    refine V.iadd (pc := 22) C dX9_wayHere_22 ?_
    replace hf := ob_some hf
    obtain ⟨x3, h4, hf⟩ := hf
    refine V.bald (pc := 23) C h4 dX9_wayHere_23 ?_
    refine V.if_eq (pc := 24) (t := 56) C dX9_wayHere_24 (by decide) (fun c5 => ?_) (fun c5 => ?_)
    · replace hf := ite_t c5 hf
      refine V.sub (L' := [(0, .ref v0), (1, .int v1), (2, .int v2)]) [0, 1, 2] rfl ?_
      exact bX9_wayHere_56 C hk7 hf
    replace hf := ite_f c5 hf
    refine V.aload_n (pc := 27) C dX9_wayHere_27 0 rfl ?_
    refine V.aload_n (pc := 28) C dX9_wayHere_28 0 rfl ?_
    replace hf := ob_some hf
    obtain ⟨x6, h7, hf⟩ := hf
    refine V.getI (pc := 29) C kX9 (k := 2) (by decide) wd_1052 h7 dX9_wayHere_29 ?_
    refine V.iload_n (pc := 32) C dX9_wayHere_32 2 rfl ?_
    refine V.iadd (pc := 33) C dX9_wayHere_33 ?_
    replace hf := ob_some hf
    obtain ⟨q8, h9, hf⟩ := hf
    refine V.callV0i (pc := 34) C hyX9_byteAt wd_1201 (mX9_byteAt (r := q8.1) (g' := q8.2) K.2.1 E (kS K) h9) rfl rfl rfl (oX9_byteAt h9) ⟨Nat.le_of_ble_eq_true rfl, Nat.le_of_ble_eq_true rfl⟩ (Nat.le_of_ble_eq_true rfl) dX9_wayHere_34 ⟨Nat.zero_le _, Nat.zero_le _⟩ rfl ?_
    refine V.aload_n (pc := 37) C dX9_wayHere_37 0 rfl ?_
    replace hf := ob_some hf
    obtain ⟨p10, h11, hf⟩ := hf
    refine V.getR (pc := 38) C kX9 (k := 12) (by decide) wd_1062 h11 dX9_wayHere_38 ?_
    refine V.iconst (pc := 41) C dX9_wayHere_41 (v := (5 : Int32)) (by decide) ?_
    refine V.iload_n (pc := 42) C dX9_wayHere_42 1 rfl ?_
    refine V.imul (pc := 43) C dX9_wayHere_43 ?_
    refine V.iload_n (pc := 44) C dX9_wayHere_44 2 rfl ?_
    refine V.iadd (pc := 45) C dX9_wayHere_45 ?_
    replace hf := ob_some hf
    obtain ⟨x12, h13, hf⟩ := hf
    refine V.bald (pc := 46) C h13 dX9_wayHere_46 ?_
    refine V.icmp_ne (pc := 47) (t := 56) C dX9_wayHere_47 (by decide) (fun c14 => ?_) (fun c14 => ?_)
    · replace hf := ite_f c14 hf
      refine V.sub (L' := [(0, .ref v0), (1, .int v1), (2, .int v2)]) [0, 1, 2] rfl ?_
      exact bX9_wayHere_56 C hk7 hf
    replace hf := ite_t c14 hf
    refine V.iinc (pc := 50) (v := (v2 + (1 : Int32))) (L' := [(2, .int (v2 + (1 : Int32))), (0, .ref v0), (1, .int v1)]) C dX9_wayHere_50 2 rfl rfl (by decide) rfl ?_
    refine V.goto (pc := 53) (t := 14) C dX9_wayHere_53 (by decide) ?_
    refine V.sub (L' := [(0, .ref v0), (1, .int v1), (2, .int (v2 + (1 : Int32)))]) [1, 2, 0] rfl ?_
    exact ih _ _ _ _ hf
def fX9_wayHere_7  : Nat → PH → Nat → Int32 → Option (Int32 × PH)
  | 0, _, _, _ => none
  | n + 1, g, v0, v1 =>
  if (3 : Int32) ≤ v1 then (some ((-1 : Int32), g)) else
  (fX9_wayHere_14 (fX9_wayHere_7 n) FUEL g v0 v1 (0 : Int32))
set_option maxHeartbeats 4000000 in
set_option maxRecDepth 100000 in
theorem bX9_wayHere_7 {K : HK} {E : HE} {r : Int32} {g' : PH}  (C : VC K E 3 cX9_wayHere RX9 (some .int))  : ∀ (n : Nat) (g : PH) (v0 : Nat) (v1 : Int32), fX9_wayHere_7  n g v0 v1 = some (r, g') → V K E (hRm 2 41 0 0) 3 (hZ K E (some (.int r)) g' 0 0) 0 0 (kS K) g 7 [(0, .ref v0), (1, .int v1)] [] := by
  intro n
  induction n with
  | zero =>
    intro g v0 v1 hf
    rw [fX9_wayHere_7] at hf
    cases hf
  | succ n ih =>
    intro g v0 v1 hf
    rw [fX9_wayHere_7] at hf
    refine V.iload_n (pc := 7) C dX9_wayHere_7 1 rfl ?_
    refine V.iconst (pc := 8) C dX9_wayHere_8 (v := (3 : Int32)) (by decide) ?_
    refine V.icmp_ge (pc := 9) (t := 100) C dX9_wayHere_9 (by decide) (fun c1 => ?_) (fun c1 => ?_)
    · replace hf := ite_t c1 hf
      refine V.iconst (pc := 100) C dX9_wayHere_100 (v := (-1 : Int32)) (by decide) ?_
      obtain ⟨f1, f2⟩ := fin2 hf
      clear hf
      subst f1
      subst f2
      exact V.iret (pc := 101) C rfl dX9_wayHere_101
    replace hf := ite_f c1 hf
    refine V.iconst (pc := 12) C dX9_wayHere_12 (v := (0 : Int32)) (by decide) ?_
    refine V.istore_n (pc := 13) (L' := [(2, .int (0 : Int32)), (0, .ref v0), (1, .int v1)]) C dX9_wayHere_13 (by decide) rfl ?_
    refine V.sub (L' := [(0, .ref v0), (1, .int v1), (2, .int (0 : Int32))]) [1, 2, 0] rfl ?_
    exact bX9_wayHere_14 C ih _ _ _ _ _ hf
def fX9_wayHere (g : PH) (a0 : Nat) : Option (Int32 × PH) :=
  okb (isO g a0 9) ((fX9_next g a0).bind fun q1 =>
  (fX9_wayHere_7 FUEL q1.2 a0 (0 : Int32)))
theorem oX9_wayHere {g : PH} {a0 : Nat} {q : (Int32 × PH)} (h : fX9_wayHere g a0 = some q) : isO g a0 9 = true := by unfold fX9_wayHere at h; exact (okb_some h).1
theorem hyX9_wayHere : hMet yX9_wayHere RX9 cX9_wayHere 3 (some .int) 0 := ⟨wd_1259, wd_1258, ws_65, wd_7, rfl, by decide +kernel, by decide +kernel, by decide +kernel⟩
set_option maxHeartbeats 4000000 in
set_option maxRecDepth 100000 in
theorem mX9_wayHere (l : Launch) (E : HE) (sz : Nat) {g g' : PH} {a0 : Nat} {r : Int32} (hf : fX9_wayHere g a0 = some (r, g')) : hM l E yX9_wayHere cX9_wayHere 3 (some .int) 2 41 0 0 sz g [.ref a0] (some (.int r)) g' := by
  refine hM.of (by decide) (Nat.le_of_ble_eq_true rfl) (fun K hl C hin hsz => ?_)
  subst hl
  subst hsz
  have C : VC K E 3 cX9_wayHere RX9 (some .int) := C
  unfold fX9_wayHere at hf
  replace hf := okb_some hf
  obtain ⟨ho, hf⟩ := hf
  refine V.start (L' := [(0, .ref a0)]) rfl ?_
  refine V.aload_n (pc := 0) C dX9_wayHere_0 0 rfl ?_
  replace hf := ob_some hf
  obtain ⟨q1, h2, hf⟩ := hf
  refine V.callV0i (pc := 1) C hyX9_next wd_1197 (mX9_next (r := q1.1) (g' := q1.2) K.2.1 E (kS K) h2) rfl rfl rfl (oX9_next h2) ⟨Nat.le_of_ble_eq_true rfl, Nat.le_of_ble_eq_true rfl⟩ (Nat.le_of_ble_eq_true rfl) dX9_wayHere_1 ⟨Nat.zero_le _, Nat.zero_le _⟩ rfl ?_
  refine V.pop (pc := 4) C dX9_wayHere_4 rfl ?_
  refine V.iconst (pc := 5) C dX9_wayHere_5 (v := (0 : Int32)) (by decide) ?_
  refine V.istore_n (pc := 6) (L' := [(1, .int (0 : Int32)), (0, .ref a0)]) C dX9_wayHere_6 (by decide) rfl ?_
  refine V.sub (L' := [(0, .ref a0), (1, .int (0 : Int32))]) [1, 0] rfl ?_
  exact bX9_wayHere_7 C  _ _ _ _ hf
theorem dX9_readsOp_0 : decode cX9_readsOp 0 = .ok (.aload_n 0, 1) := by decide +kernel
theorem dX9_readsOp_1 : decode cX9_readsOp 1 = .ok (.invokevirtual 100, 3) := by decide +kernel
theorem dX9_readsOp_4 : decode cX9_readsOp 4 = .ok (.istore_n 3, 1) := by decide +kernel
theorem dX9_readsOp_5 : decode cX9_readsOp 5 = .ok (.aload_n 0, 1) := by decide +kernel
theorem dX9_readsOp_6 : decode cX9_readsOp 6 = .ok (.getfield 93, 3) := by decide +kernel
theorem dX9_readsOp_9 : decode cX9_readsOp 9 = .ok (.istore 4, 2) := by decide +kernel
theorem dX9_readsOp_11 : decode cX9_readsOp 11 = .ok (.iload_n 3, 1) := by decide +kernel
theorem dX9_readsOp_12 : decode cX9_readsOp 12 = .ok (.bipush 114, 2) := by decide +kernel
theorem dX9_readsOp_14 : decode cX9_readsOp 14 = .ok (.if_icmp .eq 17, 3) := by decide +kernel
theorem dX9_readsOp_17 : decode cX9_readsOp 17 = .ok (.iload_n 3, 1) := by decide +kernel
theorem dX9_readsOp_18 : decode cX9_readsOp 18 = .ok (.bipush 119, 2) := by decide +kernel
theorem dX9_readsOp_20 : decode cX9_readsOp 20 = .ok (.if_icmp .eq 11, 3) := by decide +kernel
theorem dX9_readsOp_23 : decode cX9_readsOp 23 = .ok (.aload_n 0, 1) := by decide +kernel
theorem dX9_readsOp_24 : decode cX9_readsOp 24 = .ok (.iconst 1, 1) := by decide +kernel
theorem dX9_readsOp_25 : decode cX9_readsOp 25 = .ok (.iload 4, 2) := by decide +kernel
theorem dX9_readsOp_27 : decode cX9_readsOp 27 = .ok (.invokevirtual 108, 3) := by decide +kernel
theorem dX9_readsOp_30 : decode cX9_readsOp 30 = .ok (.ireturn, 1) := by decide +kernel
theorem dX9_readsOp_31 : decode cX9_readsOp 31 = .ok (.iload_n 2, 1) := by decide +kernel
theorem dX9_readsOp_32 : decode cX9_readsOp 32 = .ok (.bipush 6, 2) := by decide +kernel
theorem dX9_readsOp_34 : decode cX9_readsOp 34 = .ok (.if_icmp .ne 11, 3) := by decide +kernel
theorem dX9_readsOp_37 : decode cX9_readsOp 37 = .ok (.aload_n 0, 1) := by decide +kernel
theorem dX9_readsOp_38 : decode cX9_readsOp 38 = .ok (.iconst 3, 1) := by decide +kernel
theorem dX9_readsOp_39 : decode cX9_readsOp 39 = .ok (.iload 4, 2) := by decide +kernel
theorem dX9_readsOp_41 : decode cX9_readsOp 41 = .ok (.invokevirtual 108, 3) := by decide +kernel
theorem dX9_readsOp_44 : decode cX9_readsOp 44 = .ok (.ireturn, 1) := by decide +kernel
theorem dX9_readsOp_45 : decode cX9_readsOp 45 = .ok (.aload_n 0, 1) := by decide +kernel
theorem dX9_readsOp_46 : decode cX9_readsOp 46 = .ok (.dup, 1) := by decide +kernel
theorem dX9_readsOp_47 : decode cX9_readsOp 47 = .ok (.getfield 93, 3) := by decide +kernel
theorem dX9_readsOp_50 : decode cX9_readsOp 50 = .ok (.iconst 1, 1) := by decide +kernel
theorem dX9_readsOp_51 : decode cX9_readsOp 51 = .ok (.iadd, 1) := by decide +kernel
theorem dX9_readsOp_52 : decode cX9_readsOp 52 = .ok (.putfield 93, 3) := by decide +kernel
theorem dX9_readsOp_55 : decode cX9_readsOp 55 = .ok (.aload_n 0, 1) := by decide +kernel
theorem dX9_readsOp_56 : decode cX9_readsOp 56 = .ok (.iconst 0, 1) := by decide +kernel
theorem dX9_readsOp_57 : decode cX9_readsOp 57 = .ok (.invokevirtual 115, 3) := by decide +kernel
theorem dX9_readsOp_60 : decode cX9_readsOp 60 = .ok (.ifCond .ne 5, 3) := by decide +kernel
theorem dX9_readsOp_63 : decode cX9_readsOp 63 = .ok (.iconst 0, 1) := by decide +kernel
theorem dX9_readsOp_64 : decode cX9_readsOp 64 = .ok (.ireturn, 1) := by decide +kernel
theorem dX9_readsOp_65 : decode cX9_readsOp 65 = .ok (.iload_n 3, 1) := by decide +kernel
theorem dX9_readsOp_66 : decode cX9_readsOp 66 = .ok (.bipush 114, 2) := by decide +kernel
theorem dX9_readsOp_68 : decode cX9_readsOp 68 = .ok (.if_icmp .ne 22, 3) := by decide +kernel
theorem dX9_readsOp_71 : decode cX9_readsOp 71 = .ok (.aload_n 0, 1) := by decide +kernel
theorem dX9_readsOp_72 : decode cX9_readsOp 72 = .ok (.getfield 112, 3) := by decide +kernel
theorem dX9_readsOp_75 : decode cX9_readsOp 75 = .ok (.aload_n 0, 1) := by decide +kernel
theorem dX9_readsOp_76 : decode cX9_readsOp 76 = .ok (.getfield 156, 3) := by decide +kernel
theorem dX9_readsOp_79 : decode cX9_readsOp 79 = .ok (.if_icmp .eq 11, 3) := by decide +kernel
theorem dX9_readsOp_82 : decode cX9_readsOp 82 = .ok (.aload_n 0, 1) := by decide +kernel
theorem dX9_readsOp_83 : decode cX9_readsOp 83 = .ok (.iconst 4, 1) := by decide +kernel
theorem dX9_readsOp_84 : decode cX9_readsOp 84 = .ok (.iload 4, 2) := by decide +kernel
theorem dX9_readsOp_86 : decode cX9_readsOp 86 = .ok (.invokevirtual 108, 3) := by decide +kernel
theorem dX9_readsOp_89 : decode cX9_readsOp 89 = .ok (.ireturn, 1) := by decide +kernel
theorem dX9_readsOp_90 : decode cX9_readsOp 90 = .ok (.aload_n 0, 1) := by decide +kernel
theorem dX9_readsOp_91 : decode cX9_readsOp 91 = .ok (.iload_n 3, 1) := by decide +kernel
theorem dX9_readsOp_92 : decode cX9_readsOp 92 = .ok (.bipush 119, 2) := by decide +kernel
theorem dX9_readsOp_94 : decode cX9_readsOp 94 = .ok (.if_icmp .ne 10, 3) := by decide +kernel
theorem dX9_readsOp_97 : decode cX9_readsOp 97 = .ok (.aload_n 0, 1) := by decide +kernel
theorem dX9_readsOp_98 : decode cX9_readsOp 98 = .ok (.getfield 112, 3) := by decide +kernel
theorem dX9_readsOp_101 : decode cX9_readsOp 101 = .ok (.goto 7, 3) := by decide +kernel
theorem dX9_readsOp_104 : decode cX9_readsOp 104 = .ok (.aload_n 0, 1) := by decide +kernel
theorem dX9_readsOp_105 : decode cX9_readsOp 105 = .ok (.getfield 156, 3) := by decide +kernel
theorem dX9_readsOp_108 : decode cX9_readsOp 108 = .ok (.putfield 156, 3) := by decide +kernel
theorem dX9_readsOp_111 : decode cX9_readsOp 111 = .ok (.aload_n 0, 1) := by decide +kernel
theorem dX9_readsOp_112 : decode cX9_readsOp 112 = .ok (.getfield 20, 3) := by decide +kernel
theorem dX9_readsOp_115 : decode cX9_readsOp 115 = .ok (.bipush 64, 2) := by decide +kernel
theorem dX9_readsOp_117 : decode cX9_readsOp 117 = .ok (.aload_n 0, 1) := by decide +kernel
theorem dX9_readsOp_118 : decode cX9_readsOp 118 = .ok (.getfield 159, 3) := by decide +kernel
theorem dX9_readsOp_121 : decode cX9_readsOp 121 = .ok (.imul, 1) := by decide +kernel
theorem dX9_readsOp_122 : decode cX9_readsOp 122 = .ok (.bipush 8, 2) := by decide +kernel
theorem dX9_readsOp_124 : decode cX9_readsOp 124 = .ok (.iload_n 1, 1) := by decide +kernel
theorem dX9_readsOp_125 : decode cX9_readsOp 125 = .ok (.imul, 1) := by decide +kernel
theorem dX9_readsOp_126 : decode cX9_readsOp 126 = .ok (.iadd, 1) := by decide +kernel
theorem dX9_readsOp_127 : decode cX9_readsOp 127 = .ok (.iconst 2, 1) := by decide +kernel
theorem dX9_readsOp_128 : decode cX9_readsOp 128 = .ok (.iadd, 1) := by decide +kernel
theorem dX9_readsOp_129 : decode cX9_readsOp 129 = .ok (.iload_n 2, 1) := by decide +kernel
theorem dX9_readsOp_130 : decode cX9_readsOp 130 = .ok (.iadd, 1) := by decide +kernel
theorem dX9_readsOp_131 : decode cX9_readsOp 131 = .ok (.iload_n 3, 1) := by decide +kernel
theorem dX9_readsOp_132 : decode cX9_readsOp 132 = .ok (.bipush 119, 2) := by decide +kernel
theorem dX9_readsOp_134 : decode cX9_readsOp 134 = .ok (.if_icmp .ne 7, 3) := by decide +kernel
theorem dX9_readsOp_137 : decode cX9_readsOp 137 = .ok (.iconst 2, 1) := by decide +kernel
theorem dX9_readsOp_138 : decode cX9_readsOp 138 = .ok (.goto 4, 3) := by decide +kernel
theorem dX9_readsOp_141 : decode cX9_readsOp 141 = .ok (.iconst 0, 1) := by decide +kernel
theorem dX9_readsOp_142 : decode cX9_readsOp 142 = .ok (.aload_n 0, 1) := by decide +kernel
theorem dX9_readsOp_143 : decode cX9_readsOp 143 = .ok (.getfield 112, 3) := by decide +kernel
theorem dX9_readsOp_146 : decode cX9_readsOp 146 = .ok (.iadd, 1) := by decide +kernel
theorem dX9_readsOp_147 : decode cX9_readsOp 147 = .ok (.iastore, 1) := by decide +kernel
theorem dX9_readsOp_148 : decode cX9_readsOp 148 = .ok (.iconst 1, 1) := by decide +kernel
theorem dX9_readsOp_149 : decode cX9_readsOp 149 = .ok (.ireturn, 1) := by decide +kernel
def fX9_readsOp_108  (g : PH) (v0 : Nat) (v1 : Int32) (v2 : Int32) (v3 : Int32) (s0 : Int32) (s1 : Nat) : Option (Int32 × PH) :=
  (putV g s1 9 13 (.int s0)).bind fun g1 =>
  ((getR g1 v0 9 8).bind fun p3 =>
  ((getI g1 v0 9 11).bind fun x5 =>
  (if v3 = (119 : Int32) then ((getI g1 v0 9 4).bind fun x12 =>
  ((stI g1 p3 0 (((((64 : Int32) * x5) + ((8 : Int32) * v1)) + (2 : Int32)) + v2) ((2 : Int32) + x12)).bind fun g14 =>
  (some ((1 : Int32), g14)))) else
  ((getI g1 v0 9 4).bind fun x8 =>
  ((stI g1 p3 0 (((((64 : Int32) * x5) + ((8 : Int32) * v1)) + (2 : Int32)) + v2) ((0 : Int32) + x8)).bind fun g10 =>
  (some ((1 : Int32), g10)))))))
set_option maxHeartbeats 4000000 in
set_option maxRecDepth 100000 in
theorem bX9_readsOp_108 {K : HK} {E : HE} {r : Int32} {g' : PH}  (C : VC K E 5 cX9_readsOp RX9 (some .boolean))  {g : PH} {v0 : Nat} {v1 : Int32} {v2 : Int32} {v3 : Int32} {s0 : Int32} {s1 : Nat} (hf : fX9_readsOp_108  g v0 v1 v2 v3 s0 s1 = some (r, g')) : V K E (hRm 3 63 0 0) 5 (hZ K E (some (.int r)) g' 0 0) 0 0 (kS K) g 108 [(0, .ref v0), (1, .int v1), (2, .int v2), (3, .int v3)] [.int s0, .ref s1] := by
  unfold fX9_readsOp_108 at hf
  replace hf := ob_some hf
  obtain ⟨g1, h2, hf⟩ := hf
  refine V.putX (pc := 108) C kX9 (k := 13) (by decide) wd_1063 rfl rfl rfl h2 dX9_readsOp_108 ?_
  refine V.aload_n (pc := 111) C dX9_readsOp_111 0 rfl ?_
  replace hf := ob_some hf
  obtain ⟨p3, h4, hf⟩ := hf
  refine V.getR (pc := 112) C kX9 (k := 8) (by decide) wd_1058 h4 dX9_readsOp_112 ?_
  refine V.bipush (pc := 115) C dX9_readsOp_115 (v := (64 : Int32)) (by decide) ?_
  refine V.aload_n (pc := 117) C dX9_readsOp_117 0 rfl ?_
  replace hf := ob_some hf
  obtain ⟨x5, h6, hf⟩ := hf
  refine V.getI (pc := 118) C kX9 (k := 11) (by decide) wd_1061 h6 dX9_readsOp_118 ?_
  refine V.imul (pc := 121) C dX9_readsOp_121 ?_
  refine V.bipush (pc := 122) C dX9_readsOp_122 (v := (8 : Int32)) (by decide) ?_
  refine V.iload_n (pc := 124) C dX9_readsOp_124 1 rfl ?_
  refine V.imul (pc := 125) C dX9_readsOp_125 ?_
  refine V.iadd (pc := 126) C dX9_readsOp_126 ?_
  refine V.iconst (pc := 127) C dX9_readsOp_127 (v := (2 : Int32)) (by decide) ?_
  refine V.iadd (pc := 128) C dX9_readsOp_128 ?_
  refine V.iload_n (pc := 129) C dX9_readsOp_129 2 rfl ?_
  refine V.iadd (pc := 130) C dX9_readsOp_130 ?_
  refine V.iload_n (pc := 131) C dX9_readsOp_131 3 rfl ?_
  refine V.bipush (pc := 132) C dX9_readsOp_132 (v := (119 : Int32)) (by decide) ?_
  refine V.icmp_ne (pc := 134) (t := 141) C dX9_readsOp_134 (by decide) (fun c7 => ?_) (fun c7 => ?_)
  · replace hf := ite_f c7 hf
    refine V.iconst (pc := 141) C dX9_readsOp_141 (v := (0 : Int32)) (by decide) ?_
    refine V.aload_n (pc := 142) C dX9_readsOp_142 0 rfl ?_
    replace hf := ob_some hf
    obtain ⟨x8, h9, hf⟩ := hf
    refine V.getI (pc := 143) C kX9 (k := 4) (by decide) wd_1054 h9 dX9_readsOp_143 ?_
    refine V.iadd (pc := 146) C dX9_readsOp_146 ?_
    replace hf := ob_some hf
    obtain ⟨g10, h11, hf⟩ := hf
    refine V.iast (pc := 147) C h11 dX9_readsOp_147 ?_
    refine V.iconst (pc := 148) C dX9_readsOp_148 (v := (1 : Int32)) (by decide) ?_
    obtain ⟨f1, f2⟩ := fin2 hf
    clear hf
    subst f1
    subst f2
    exact V.zret (pc := 149) C rfl rfl dX9_readsOp_149
  replace hf := ite_t c7 hf
  refine V.iconst (pc := 137) C dX9_readsOp_137 (v := (2 : Int32)) (by decide) ?_
  refine V.goto (pc := 138) (t := 142) C dX9_readsOp_138 (by decide) ?_
  refine V.aload_n (pc := 142) C dX9_readsOp_142 0 rfl ?_
  replace hf := ob_some hf
  obtain ⟨x12, h13, hf⟩ := hf
  refine V.getI (pc := 143) C kX9 (k := 4) (by decide) wd_1054 h13 dX9_readsOp_143 ?_
  refine V.iadd (pc := 146) C dX9_readsOp_146 ?_
  replace hf := ob_some hf
  obtain ⟨g14, h15, hf⟩ := hf
  refine V.iast (pc := 147) C h15 dX9_readsOp_147 ?_
  refine V.iconst (pc := 148) C dX9_readsOp_148 (v := (1 : Int32)) (by decide) ?_
  obtain ⟨f1, f2⟩ := fin2 hf
  clear hf
  subst f1
  subst f2
  exact V.zret (pc := 149) C rfl rfl dX9_readsOp_149
def fX9_readsOp_90  (g : PH) (v0 : Nat) (v1 : Int32) (v2 : Int32) (v3 : Int32) : Option (Int32 × PH) :=
  if v3 = (119 : Int32) then ((getI g v0 9 4).bind fun x4 =>
  (fX9_readsOp_108 g v0 v1 v2 v3 x4 v0)) else
  ((getI g v0 9 13).bind fun x2 =>
  (fX9_readsOp_108 g v0 v1 v2 v3 x2 v0))
set_option maxHeartbeats 4000000 in
set_option maxRecDepth 100000 in
theorem bX9_readsOp_90 {K : HK} {E : HE} {r : Int32} {g' : PH}  (C : VC K E 5 cX9_readsOp RX9 (some .boolean))  {g : PH} {v0 : Nat} {v1 : Int32} {v2 : Int32} {v3 : Int32} (hf : fX9_readsOp_90  g v0 v1 v2 v3 = some (r, g')) : V K E (hRm 3 63 0 0) 5 (hZ K E (some (.int r)) g' 0 0) 0 0 (kS K) g 90 [(0, .ref v0), (1, .int v1), (2, .int v2), (3, .int v3)] [] := by
  unfold fX9_readsOp_90 at hf
  refine V.aload_n (pc := 90) C dX9_readsOp_90 0 rfl ?_
  refine V.iload_n (pc := 91) C dX9_readsOp_91 3 rfl ?_
  refine V.bipush (pc := 92) C dX9_readsOp_92 (v := (119 : Int32)) (by decide) ?_
  refine V.icmp_ne (pc := 94) (t := 104) C dX9_readsOp_94 (by decide) (fun c1 => ?_) (fun c1 => ?_)
  · replace hf := ite_f c1 hf
    refine V.aload_n (pc := 104) C dX9_readsOp_104 0 rfl ?_
    replace hf := ob_some hf
    obtain ⟨x2, h3, hf⟩ := hf
    refine V.getI (pc := 105) C kX9 (k := 13) (by decide) wd_1063 h3 dX9_readsOp_105 ?_
    refine V.sub (L' := [(0, .ref v0), (1, .int v1), (2, .int v2), (3, .int v3)]) [0, 1, 2, 3] rfl ?_
    exact bX9_readsOp_108 C  hf
  replace hf := ite_t c1 hf
  refine V.aload_n (pc := 97) C dX9_readsOp_97 0 rfl ?_
  replace hf := ob_some hf
  obtain ⟨x4, h5, hf⟩ := hf
  refine V.getI (pc := 98) C kX9 (k := 4) (by decide) wd_1054 h5 dX9_readsOp_98 ?_
  refine V.goto (pc := 101) (t := 108) C dX9_readsOp_101 (by decide) ?_
  refine V.sub (L' := [(0, .ref v0), (1, .int v1), (2, .int v2), (3, .int v3)]) [0, 1, 2, 3] rfl ?_
  exact bX9_readsOp_108 C  hf
def fX9_readsOp_31  (g : PH) (v0 : Nat) (v1 : Int32) (v2 : Int32) (v3 : Int32) (v4 : Int32) : Option (Int32 × PH) :=
  if v2 = (6 : Int32) then ((fX9_fails g v0 (3 : Int32) v4).bind fun q18 =>
  (okb (vp_nar .boolean q18.1 == q18.1) (some (q18.1, q18.2)))) else
  ((getI g v0 9 2).bind fun x2 =>
  ((putV g v0 9 2 (.int (x2 + (1 : Int32)))).bind fun g4 =>
  ((fX9_readsDigit g4 v0 (0 : Int32)).bind fun q6 =>
  (if q6.1 = 0 then (some ((0 : Int32), q6.2)) else
  (if v3 = (114 : Int32) then ((getI q6.2 v0 9 4).bind fun x10 =>
  ((getI q6.2 v0 9 13).bind fun x12 =>
  (if x10 = x12 then (fX9_readsOp_90 q6.2 v0 v1 v2 v3) else
  ((fX9_fails q6.2 v0 (4 : Int32) v4).bind fun q15 =>
  (okb (vp_nar .boolean q15.1 == q15.1) (some (q15.1, q15.2))))))) else
  (fX9_readsOp_90 q6.2 v0 v1 v2 v3))))))
set_option maxHeartbeats 4000000 in
set_option maxRecDepth 100000 in
theorem bX9_readsOp_31 {K : HK} {E : HE} {r : Int32} {g' : PH}  (C : VC K E 5 cX9_readsOp RX9 (some .boolean))  {g : PH} {v0 : Nat} {v1 : Int32} {v2 : Int32} {v3 : Int32} {v4 : Int32} (hf : fX9_readsOp_31  g v0 v1 v2 v3 v4 = some (r, g')) : V K E (hRm 3 63 0 0) 5 (hZ K E (some (.int r)) g' 0 0) 0 0 (kS K) g 31 [(0, .ref v0), (1, .int v1), (2, .int v2), (3, .int v3), (4, .int v4)] [] := by
  unfold fX9_readsOp_31 at hf
  refine V.iload_n (pc := 31) C dX9_readsOp_31 2 rfl ?_
  refine V.bipush (pc := 32) C dX9_readsOp_32 (v := (6 : Int32)) (by decide) ?_
  refine V.icmp_ne (pc := 34) (t := 45) C dX9_readsOp_34 (by decide) (fun c1 => ?_) (fun c1 => ?_)
  · replace hf := ite_f c1 hf
    refine V.aload_n (pc := 45) C dX9_readsOp_45 0 rfl ?_
    refine V.dup (pc := 46) C dX9_readsOp_46 rfl ?_
    replace hf := ob_some hf
    obtain ⟨x2, h3, hf⟩ := hf
    refine V.getI (pc := 47) C kX9 (k := 2) (by decide) wd_1052 h3 dX9_readsOp_47 ?_
    refine V.iconst (pc := 50) C dX9_readsOp_50 (v := (1 : Int32)) (by decide) ?_
    refine V.iadd (pc := 51) C dX9_readsOp_51 ?_
    replace hf := ob_some hf
    obtain ⟨g4, h5, hf⟩ := hf
    refine V.putX (pc := 52) C kX9 (k := 2) (by decide) wd_1052 rfl rfl rfl h5 dX9_readsOp_52 ?_
    refine V.aload_n (pc := 55) C dX9_readsOp_55 0 rfl ?_
    refine V.iconst (pc := 56) C dX9_readsOp_56 (v := (0 : Int32)) (by decide) ?_
    replace hf := ob_some hf
    obtain ⟨q6, h7, hf⟩ := hf
    refine V.callV0i (pc := 57) C hyX9_readsDigit wd_1228 (mX9_readsDigit (r := q6.1) (g' := q6.2) K.2.1 E (kS K) h7) rfl rfl rfl (oX9_readsDigit h7) ⟨Nat.le_of_ble_eq_true rfl, Nat.le_of_ble_eq_true rfl⟩ (Nat.le_of_ble_eq_true rfl) dX9_readsOp_57 ⟨Nat.zero_le _, Nat.zero_le _⟩ rfl ?_
    refine V.if_ne (pc := 60) (t := 65) C dX9_readsOp_60 (by decide) (fun c8 => ?_) (fun c8 => ?_)
    · replace hf := ite_f c8 hf
      refine V.iload_n (pc := 65) C dX9_readsOp_65 3 rfl ?_
      refine V.bipush (pc := 66) C dX9_readsOp_66 (v := (114 : Int32)) (by decide) ?_
      refine V.icmp_ne (pc := 68) (t := 90) C dX9_readsOp_68 (by decide) (fun c9 => ?_) (fun c9 => ?_)
      · replace hf := ite_f c9 hf
        refine V.sub (L' := [(0, .ref v0), (1, .int v1), (2, .int v2), (3, .int v3)]) [0, 1, 2, 3] rfl ?_
        exact bX9_readsOp_90 C  hf
      replace hf := ite_t c9 hf
      refine V.aload_n (pc := 71) C dX9_readsOp_71 0 rfl ?_
      replace hf := ob_some hf
      obtain ⟨x10, h11, hf⟩ := hf
      refine V.getI (pc := 72) C kX9 (k := 4) (by decide) wd_1054 h11 dX9_readsOp_72 ?_
      refine V.aload_n (pc := 75) C dX9_readsOp_75 0 rfl ?_
      replace hf := ob_some hf
      obtain ⟨x12, h13, hf⟩ := hf
      refine V.getI (pc := 76) C kX9 (k := 13) (by decide) wd_1063 h13 dX9_readsOp_76 ?_
      refine V.icmp_eq (pc := 79) (t := 90) C dX9_readsOp_79 (by decide) (fun c14 => ?_) (fun c14 => ?_)
      · replace hf := ite_t c14 hf
        refine V.sub (L' := [(0, .ref v0), (1, .int v1), (2, .int v2), (3, .int v3)]) [0, 1, 2, 3] rfl ?_
        exact bX9_readsOp_90 C  hf
      replace hf := ite_f c14 hf
      refine V.aload_n (pc := 82) C dX9_readsOp_82 0 rfl ?_
      refine V.iconst (pc := 83) C dX9_readsOp_83 (v := (4 : Int32)) (by decide) ?_
      refine V.iload (pc := 84) C dX9_readsOp_84 4 rfl ?_
      replace hf := ob_some hf
      obtain ⟨q15, h16, hf⟩ := hf
      refine V.callV0i (pc := 86) C hyX9_fails wd_1208 (mX9_fails (r := q15.1) (g' := q15.2) K.2.1 E (kS K) h16) rfl rfl rfl (oX9_fails h16) ⟨Nat.le_of_ble_eq_true rfl, Nat.le_of_ble_eq_true rfl⟩ (Nat.le_of_ble_eq_true rfl) dX9_readsOp_86 ⟨Nat.zero_le _, Nat.zero_le _⟩ rfl ?_
      replace hf := okb_some hf
      obtain ⟨h17, hf⟩ := hf
      obtain ⟨f1, f2⟩ := fin2 hf
      clear hf
      subst f1
      subst f2
      exact V.zret (pc := 89) C (nar_z (eq_of_beq h17)) rfl dX9_readsOp_89
    replace hf := ite_t c8 hf
    refine V.iconst (pc := 63) C dX9_readsOp_63 (v := (0 : Int32)) (by decide) ?_
    obtain ⟨f1, f2⟩ := fin2 hf
    clear hf
    subst f1
    subst f2
    exact V.zret (pc := 64) C rfl rfl dX9_readsOp_64
  replace hf := ite_t c1 hf
  refine V.aload_n (pc := 37) C dX9_readsOp_37 0 rfl ?_
  refine V.iconst (pc := 38) C dX9_readsOp_38 (v := (3 : Int32)) (by decide) ?_
  refine V.iload (pc := 39) C dX9_readsOp_39 4 rfl ?_
  replace hf := ob_some hf
  obtain ⟨q18, h19, hf⟩ := hf
  refine V.callV0i (pc := 41) C hyX9_fails wd_1208 (mX9_fails (r := q18.1) (g' := q18.2) K.2.1 E (kS K) h19) rfl rfl rfl (oX9_fails h19) ⟨Nat.le_of_ble_eq_true rfl, Nat.le_of_ble_eq_true rfl⟩ (Nat.le_of_ble_eq_true rfl) dX9_readsOp_41 ⟨Nat.zero_le _, Nat.zero_le _⟩ rfl ?_
  replace hf := okb_some hf
  obtain ⟨h20, hf⟩ := hf
  obtain ⟨f1, f2⟩ := fin2 hf
  clear hf
  subst f1
  subst f2
  exact V.zret (pc := 44) C (nar_z (eq_of_beq h20)) rfl dX9_readsOp_44
def fX9_readsOp (g : PH) (a0 : Nat) (a1 : Int32) (a2 : Int32) : Option (Int32 × PH) :=
  okb (isO g a0 9) ((fX9_next g a0).bind fun q1 =>
  ((getI q1.2 a0 9 2).bind fun x3 =>
  (if q1.1 = (114 : Int32) then (fX9_readsOp_31 q1.2 a0 a1 a2 q1.1 x3) else
  (if q1.1 = (119 : Int32) then (fX9_readsOp_31 q1.2 a0 a1 a2 q1.1 x3) else
  ((fX9_fails q1.2 a0 (1 : Int32) x3).bind fun q7 =>
  (okb (vp_nar .boolean q7.1 == q7.1) (some (q7.1, q7.2))))))))
theorem oX9_readsOp {g : PH} {a0 : Nat} {a1 : Int32} {a2 : Int32} {q : (Int32 × PH)} (h : fX9_readsOp g a0 a1 a2 = some q) : isO g a0 9 = true := by unfold fX9_readsOp at h; exact (okb_some h).1
theorem hyX9_readsOp : hMet yX9_readsOp RX9 cX9_readsOp 5 (some .boolean) 2 := ⟨wd_1265, wd_1264, ws_66, wd_7, rfl, by decide +kernel, by decide +kernel, by decide +kernel⟩
set_option maxHeartbeats 4000000 in
set_option maxRecDepth 100000 in
theorem mX9_readsOp (l : Launch) (E : HE) (sz : Nat) {g g' : PH} {a0 : Nat} {a1 : Int32} {a2 : Int32} {r : Int32} (hf : fX9_readsOp g a0 a1 a2 = some (r, g')) : hM l E yX9_readsOp cX9_readsOp 5 (some .boolean) 3 63 0 0 sz g [.ref a0, .int a1, .int a2] (some (.int r)) g' := by
  refine hM.of (by decide) (Nat.le_of_ble_eq_true rfl) (fun K hl C hin hsz => ?_)
  subst hl
  subst hsz
  have C : VC K E 5 cX9_readsOp RX9 (some .boolean) := C
  unfold fX9_readsOp at hf
  replace hf := okb_some hf
  obtain ⟨ho, hf⟩ := hf
  refine V.start (L' := [(0, .ref a0), (1, .int a1), (2, .int a2)]) rfl ?_
  refine V.aload_n (pc := 0) C dX9_readsOp_0 0 rfl ?_
  replace hf := ob_some hf
  obtain ⟨q1, h2, hf⟩ := hf
  refine V.callV0i (pc := 1) C hyX9_next wd_1197 (mX9_next (r := q1.1) (g' := q1.2) K.2.1 E (kS K) h2) rfl rfl rfl (oX9_next h2) ⟨Nat.le_of_ble_eq_true rfl, Nat.le_of_ble_eq_true rfl⟩ (Nat.le_of_ble_eq_true rfl) dX9_readsOp_1 ⟨Nat.zero_le _, Nat.zero_le _⟩ rfl ?_
  refine V.istore_n (pc := 4) (L' := [(3, .int q1.1), (0, .ref a0), (1, .int a1), (2, .int a2)]) C dX9_readsOp_4 (by decide) rfl ?_
  refine V.aload_n (pc := 5) C dX9_readsOp_5 1 rfl ?_
  replace hf := ob_some hf
  obtain ⟨x3, h4, hf⟩ := hf
  refine V.getI (pc := 6) C kX9 (k := 2) (by decide) wd_1052 h4 dX9_readsOp_6 ?_
  refine V.istore (pc := 9) (L' := [(4, .int x3), (3, .int q1.1), (0, .ref a0), (1, .int a1), (2, .int a2)]) C dX9_readsOp_9 (by decide) rfl ?_
  refine V.iload_n (pc := 11) C dX9_readsOp_11 1 rfl ?_
  refine V.bipush (pc := 12) C dX9_readsOp_12 (v := (114 : Int32)) (by decide) ?_
  refine V.icmp_eq (pc := 14) (t := 31) C dX9_readsOp_14 (by decide) (fun c5 => ?_) (fun c5 => ?_)
  · replace hf := ite_t c5 hf
    refine V.sub (L' := [(0, .ref a0), (1, .int a1), (2, .int a2), (3, .int q1.1), (4, .int x3)]) [2, 3, 4, 1, 0] rfl ?_
    exact bX9_readsOp_31 C  hf
  replace hf := ite_f c5 hf
  refine V.iload_n (pc := 17) C dX9_readsOp_17 1 rfl ?_
  refine V.bipush (pc := 18) C dX9_readsOp_18 (v := (119 : Int32)) (by decide) ?_
  refine V.icmp_eq (pc := 20) (t := 31) C dX9_readsOp_20 (by decide) (fun c6 => ?_) (fun c6 => ?_)
  · replace hf := ite_t c6 hf
    refine V.sub (L' := [(0, .ref a0), (1, .int a1), (2, .int a2), (3, .int q1.1), (4, .int x3)]) [2, 3, 4, 1, 0] rfl ?_
    exact bX9_readsOp_31 C  hf
  replace hf := ite_f c6 hf
  refine V.aload_n (pc := 23) C dX9_readsOp_23 2 rfl ?_
  refine V.iconst (pc := 24) C dX9_readsOp_24 (v := (1 : Int32)) (by decide) ?_
  refine V.iload (pc := 25) C dX9_readsOp_25 0 rfl ?_
  replace hf := ob_some hf
  obtain ⟨q7, h8, hf⟩ := hf
  refine V.callV0i (pc := 27) C hyX9_fails wd_1208 (mX9_fails (r := q7.1) (g' := q7.2) K.2.1 E (kS K) h8) rfl rfl rfl (oX9_fails h8) ⟨Nat.le_of_ble_eq_true rfl, Nat.le_of_ble_eq_true rfl⟩ (Nat.le_of_ble_eq_true rfl) dX9_readsOp_27 ⟨Nat.zero_le _, Nat.zero_le _⟩ rfl ?_
  replace hf := okb_some hf
  obtain ⟨h9, hf⟩ := hf
  obtain ⟨f1, f2⟩ := fin2 hf
  clear hf
  subst f1
  subst f2
  exact V.zret (pc := 30) C (nar_z (eq_of_beq h9)) rfl dX9_readsOp_30
theorem dX9_readsElement_0 : decode cX9_readsElement 0 = .ok (.aload_n 0, 1) := by decide +kernel
theorem dX9_readsElement_1 : decode cX9_readsElement 1 = .ok (.invokevirtual 162, 3) := by decide +kernel
theorem dX9_readsElement_4 : decode cX9_readsElement 4 = .ok (.istore_n 2, 1) := by decide +kernel
theorem dX9_readsElement_5 : decode cX9_readsElement 5 = .ok (.iload_n 2, 1) := by decide +kernel
theorem dX9_readsElement_6 : decode cX9_readsElement 6 = .ok (.ifCond .ge 13, 3) := by decide +kernel
theorem dX9_readsElement_9 : decode cX9_readsElement 9 = .ok (.aload_n 0, 1) := by decide +kernel
theorem dX9_readsElement_10 : decode cX9_readsElement 10 = .ok (.iconst 1, 1) := by decide +kernel
theorem dX9_readsElement_11 : decode cX9_readsElement 11 = .ok (.aload_n 0, 1) := by decide +kernel
theorem dX9_readsElement_12 : decode cX9_readsElement 12 = .ok (.getfield 93, 3) := by decide +kernel
theorem dX9_readsElement_15 : decode cX9_readsElement 15 = .ok (.invokevirtual 108, 3) := by decide +kernel
theorem dX9_readsElement_18 : decode cX9_readsElement 18 = .ok (.ireturn, 1) := by decide +kernel
theorem dX9_readsElement_19 : decode cX9_readsElement 19 = .ok (.iload_n 1, 1) := by decide +kernel
theorem dX9_readsElement_20 : decode cX9_readsElement 20 = .ok (.bipush 8, 2) := by decide +kernel
theorem dX9_readsElement_22 : decode cX9_readsElement 22 = .ok (.if_icmp .eq 16, 3) := by decide +kernel
theorem dX9_readsElement_25 : decode cX9_readsElement 25 = .ok (.iload_n 2, 1) := by decide +kernel
theorem dX9_readsElement_26 : decode cX9_readsElement 26 = .ok (.iconst 2, 1) := by decide +kernel
theorem dX9_readsElement_27 : decode cX9_readsElement 27 = .ok (.if_icmp .ne 21, 3) := by decide +kernel
theorem dX9_readsElement_30 : decode cX9_readsElement 30 = .ok (.aload_n 0, 1) := by decide +kernel
theorem dX9_readsElement_31 : decode cX9_readsElement 31 = .ok (.getfield 165, 3) := by decide +kernel
theorem dX9_readsElement_34 : decode cX9_readsElement 34 = .ok (.iconst 3, 1) := by decide +kernel
theorem dX9_readsElement_35 : decode cX9_readsElement 35 = .ok (.if_icmp .ne 13, 3) := by decide +kernel
theorem dX9_readsElement_38 : decode cX9_readsElement 38 = .ok (.aload_n 0, 1) := by decide +kernel
theorem dX9_readsElement_39 : decode cX9_readsElement 39 = .ok (.iconst 2, 1) := by decide +kernel
theorem dX9_readsElement_40 : decode cX9_readsElement 40 = .ok (.aload_n 0, 1) := by decide +kernel
theorem dX9_readsElement_41 : decode cX9_readsElement 41 = .ok (.getfield 93, 3) := by decide +kernel
theorem dX9_readsElement_44 : decode cX9_readsElement 44 = .ok (.invokevirtual 108, 3) := by decide +kernel
theorem dX9_readsElement_47 : decode cX9_readsElement 47 = .ok (.ireturn, 1) := by decide +kernel
theorem dX9_readsElement_48 : decode cX9_readsElement 48 = .ok (.aload_n 0, 1) := by decide +kernel
theorem dX9_readsElement_49 : decode cX9_readsElement 49 = .ok (.dup, 1) := by decide +kernel
theorem dX9_readsElement_50 : decode cX9_readsElement 50 = .ok (.getfield 165, 3) := by decide +kernel
theorem dX9_readsElement_53 : decode cX9_readsElement 53 = .ok (.iload_n 2, 1) := by decide +kernel
theorem dX9_readsElement_54 : decode cX9_readsElement 54 = .ok (.iconst 2, 1) := by decide +kernel
theorem dX9_readsElement_55 : decode cX9_readsElement 55 = .ok (.if_icmp .ne 7, 3) := by decide +kernel
theorem dX9_readsElement_58 : decode cX9_readsElement 58 = .ok (.iconst 1, 1) := by decide +kernel
theorem dX9_readsElement_59 : decode cX9_readsElement 59 = .ok (.goto 4, 3) := by decide +kernel
theorem dX9_readsElement_62 : decode cX9_readsElement 62 = .ok (.iconst 0, 1) := by decide +kernel
theorem dX9_readsElement_63 : decode cX9_readsElement 63 = .ok (.iadd, 1) := by decide +kernel
theorem dX9_readsElement_64 : decode cX9_readsElement 64 = .ok (.putfield 165, 3) := by decide +kernel
theorem dX9_readsElement_67 : decode cX9_readsElement 67 = .ok (.aload_n 0, 1) := by decide +kernel
theorem dX9_readsElement_68 : decode cX9_readsElement 68 = .ok (.aload_n 0, 1) := by decide +kernel
theorem dX9_readsElement_69 : decode cX9_readsElement 69 = .ok (.getfield 93, 3) := by decide +kernel
theorem dX9_readsElement_72 : decode cX9_readsElement 72 = .ok (.invokevirtual 96, 3) := by decide +kernel
theorem dX9_readsElement_75 : decode cX9_readsElement 75 = .ok (.i2l, 1) := by decide +kernel
theorem dX9_readsElement_76 : decode cX9_readsElement 76 = .ok (.ldc2_w 152, 3) := by decide +kernel
theorem dX9_readsElement_79 : decode cX9_readsElement 79 = .ok (.ldc2_w 154, 3) := by decide +kernel
theorem dX9_readsElement_82 : decode cX9_readsElement 82 = .ok (.invokestatic 86, 3) := by decide +kernel
theorem dX9_readsElement_85 : decode cX9_readsElement 85 = .ok (.ifCond .eq 16, 3) := by decide +kernel
theorem dX9_readsElement_88 : decode cX9_readsElement 88 = .ok (.aload_n 0, 1) := by decide +kernel
theorem dX9_readsElement_89 : decode cX9_readsElement 89 = .ok (.dup, 1) := by decide +kernel
theorem dX9_readsElement_90 : decode cX9_readsElement 90 = .ok (.getfield 93, 3) := by decide +kernel
theorem dX9_readsElement_93 : decode cX9_readsElement 93 = .ok (.iconst 1, 1) := by decide +kernel
theorem dX9_readsElement_94 : decode cX9_readsElement 94 = .ok (.iadd, 1) := by decide +kernel
theorem dX9_readsElement_95 : decode cX9_readsElement 95 = .ok (.putfield 93, 3) := by decide +kernel
theorem dX9_readsElement_98 : decode cX9_readsElement 98 = .ok (.goto (-31), 3) := by decide +kernel
theorem dX9_readsElement_101 : decode cX9_readsElement 101 = .ok (.aload_n 0, 1) := by decide +kernel
theorem dX9_readsElement_102 : decode cX9_readsElement 102 = .ok (.bipush 40, 2) := by decide +kernel
theorem dX9_readsElement_104 : decode cX9_readsElement 104 = .ok (.invokevirtual 126, 3) := by decide +kernel
theorem dX9_readsElement_107 : decode cX9_readsElement 107 = .ok (.ifCond .ne 5, 3) := by decide +kernel
theorem dX9_readsElement_110 : decode cX9_readsElement 110 = .ok (.iconst 0, 1) := by decide +kernel
theorem dX9_readsElement_111 : decode cX9_readsElement 111 = .ok (.ireturn, 1) := by decide +kernel
theorem dX9_readsElement_112 : decode cX9_readsElement 112 = .ok (.iconst 0, 1) := by decide +kernel
theorem dX9_readsElement_113 : decode cX9_readsElement 113 = .ok (.istore_n 3, 1) := by decide +kernel
theorem dX9_readsElement_114 : decode cX9_readsElement 114 = .ok (.aload_n 0, 1) := by decide +kernel
theorem dX9_readsElement_115 : decode cX9_readsElement 115 = .ok (.iload_n 1, 1) := by decide +kernel
theorem dX9_readsElement_116 : decode cX9_readsElement 116 = .ok (.iload_n 3, 1) := by decide +kernel
theorem dX9_readsElement_117 : decode cX9_readsElement 117 = .ok (.invokevirtual 168, 3) := by decide +kernel
theorem dX9_readsElement_120 : decode cX9_readsElement 120 = .ok (.ifCond .ne 5, 3) := by decide +kernel
theorem dX9_readsElement_123 : decode cX9_readsElement 123 = .ok (.iconst 0, 1) := by decide +kernel
theorem dX9_readsElement_124 : decode cX9_readsElement 124 = .ok (.ireturn, 1) := by decide +kernel
theorem dX9_readsElement_125 : decode cX9_readsElement 125 = .ok (.iinc 3 1, 3) := by decide +kernel
theorem dX9_readsElement_128 : decode cX9_readsElement 128 = .ok (.aload_n 0, 1) := by decide +kernel
theorem dX9_readsElement_129 : decode cX9_readsElement 129 = .ok (.bipush 44, 2) := by decide +kernel
theorem dX9_readsElement_131 : decode cX9_readsElement 131 = .ok (.invokevirtual 104, 3) := by decide +kernel
theorem dX9_readsElement_134 : decode cX9_readsElement 134 = .ok (.ifCond .ne (-20), 3) := by decide +kernel
theorem dX9_readsElement_137 : decode cX9_readsElement 137 = .ok (.aload_n 0, 1) := by decide +kernel
theorem dX9_readsElement_138 : decode cX9_readsElement 138 = .ok (.getfield 20, 3) := by decide +kernel
theorem dX9_readsElement_141 : decode cX9_readsElement 141 = .ok (.bipush 64, 2) := by decide +kernel
theorem dX9_readsElement_143 : decode cX9_readsElement 143 = .ok (.aload_n 0, 1) := by decide +kernel
theorem dX9_readsElement_144 : decode cX9_readsElement 144 = .ok (.getfield 159, 3) := by decide +kernel
theorem dX9_readsElement_147 : decode cX9_readsElement 147 = .ok (.imul, 1) := by decide +kernel
theorem dX9_readsElement_148 : decode cX9_readsElement 148 = .ok (.bipush 8, 2) := by decide +kernel
theorem dX9_readsElement_150 : decode cX9_readsElement 150 = .ok (.iload_n 1, 1) := by decide +kernel
theorem dX9_readsElement_151 : decode cX9_readsElement 151 = .ok (.imul, 1) := by decide +kernel
theorem dX9_readsElement_152 : decode cX9_readsElement 152 = .ok (.iadd, 1) := by decide +kernel
theorem dX9_readsElement_153 : decode cX9_readsElement 153 = .ok (.iload_n 2, 1) := by decide +kernel
theorem dX9_readsElement_154 : decode cX9_readsElement 154 = .ok (.iastore, 1) := by decide +kernel
theorem dX9_readsElement_155 : decode cX9_readsElement 155 = .ok (.aload_n 0, 1) := by decide +kernel
theorem dX9_readsElement_156 : decode cX9_readsElement 156 = .ok (.getfield 20, 3) := by decide +kernel
theorem dX9_readsElement_159 : decode cX9_readsElement 159 = .ok (.bipush 64, 2) := by decide +kernel
theorem dX9_readsElement_161 : decode cX9_readsElement 161 = .ok (.aload_n 0, 1) := by decide +kernel
theorem dX9_readsElement_162 : decode cX9_readsElement 162 = .ok (.getfield 159, 3) := by decide +kernel
theorem dX9_readsElement_165 : decode cX9_readsElement 165 = .ok (.imul, 1) := by decide +kernel
theorem dX9_readsElement_166 : decode cX9_readsElement 166 = .ok (.bipush 8, 2) := by decide +kernel
theorem dX9_readsElement_168 : decode cX9_readsElement 168 = .ok (.iload_n 1, 1) := by decide +kernel
theorem dX9_readsElement_169 : decode cX9_readsElement 169 = .ok (.imul, 1) := by decide +kernel
theorem dX9_readsElement_170 : decode cX9_readsElement 170 = .ok (.iadd, 1) := by decide +kernel
theorem dX9_readsElement_171 : decode cX9_readsElement 171 = .ok (.iconst 1, 1) := by decide +kernel
theorem dX9_readsElement_172 : decode cX9_readsElement 172 = .ok (.iadd, 1) := by decide +kernel
theorem dX9_readsElement_173 : decode cX9_readsElement 173 = .ok (.iload_n 3, 1) := by decide +kernel
theorem dX9_readsElement_174 : decode cX9_readsElement 174 = .ok (.iastore, 1) := by decide +kernel
theorem dX9_readsElement_175 : decode cX9_readsElement 175 = .ok (.aload_n 0, 1) := by decide +kernel
theorem dX9_readsElement_176 : decode cX9_readsElement 176 = .ok (.bipush 41, 2) := by decide +kernel
theorem dX9_readsElement_178 : decode cX9_readsElement 178 = .ok (.invokevirtual 126, 3) := by decide +kernel
theorem dX9_readsElement_181 : decode cX9_readsElement 181 = .ok (.ireturn, 1) := by decide +kernel
def fX9_readsElement_38  (g : PH) (v0 : Nat) : Option (Int32 × PH) :=
  (getI g v0 9 2).bind fun x1 =>
  ((fX9_fails g v0 (2 : Int32) x1).bind fun q3 =>
  (okb (vp_nar .boolean q3.1 == q3.1) (some (q3.1, q3.2))))
set_option maxHeartbeats 4000000 in
set_option maxRecDepth 100000 in
theorem bX9_readsElement_38 {K : HK} {E : HE} {r : Int32} {g' : PH}  (C : VC K E 4 cX9_readsElement RX9 (some .boolean))  {g : PH} {v0 : Nat} (hf : fX9_readsElement_38  g v0 = some (r, g')) : V K E (hRm 4 87 0 0) 4 (hZ K E (some (.int r)) g' 0 0) 0 0 (kS K) g 38 [(0, .ref v0)] [] := by
  unfold fX9_readsElement_38 at hf
  refine V.aload_n (pc := 38) C dX9_readsElement_38 0 rfl ?_
  refine V.iconst (pc := 39) C dX9_readsElement_39 (v := (2 : Int32)) (by decide) ?_
  refine V.aload_n (pc := 40) C dX9_readsElement_40 0 rfl ?_
  replace hf := ob_some hf
  obtain ⟨x1, h2, hf⟩ := hf
  refine V.getI (pc := 41) C kX9 (k := 2) (by decide) wd_1052 h2 dX9_readsElement_41 ?_
  replace hf := ob_some hf
  obtain ⟨q3, h4, hf⟩ := hf
  refine V.callV0i (pc := 44) C hyX9_fails wd_1208 (mX9_fails (r := q3.1) (g' := q3.2) K.2.1 E (kS K) h4) rfl rfl rfl (oX9_fails h4) ⟨Nat.le_of_ble_eq_true rfl, Nat.le_of_ble_eq_true rfl⟩ (Nat.le_of_ble_eq_true rfl) dX9_readsElement_44 ⟨Nat.zero_le _, Nat.zero_le _⟩ rfl ?_
  replace hf := okb_some hf
  obtain ⟨h5, hf⟩ := hf
  obtain ⟨f1, f2⟩ := fin2 hf
  clear hf
  subst f1
  subst f2
  exact V.zret (pc := 47) C (nar_z (eq_of_beq h5)) rfl dX9_readsElement_47
def fX9_readsElement_114  : Nat → PH → Nat → Int32 → Int32 → Int32 → Option (Int32 × PH)
  | 0, _, _, _, _, _ => none
  | n + 1, g, v0, v1, v2, v3 =>
  (fX9_readsOp g v0 v1 v3).bind fun q1 =>
  (if q1.1 = 0 then (some ((0 : Int32), q1.2)) else
  ((fX9_takes q1.2 v0 (44 : Int32)).bind fun q4 =>
  (if q4.1 = 0 then ((getR q4.2 v0 9 8).bind fun p7 =>
  ((getI q4.2 v0 9 11).bind fun x9 =>
  ((stI q4.2 p7 0 (((64 : Int32) * x9) + ((8 : Int32) * v1)) v2).bind fun g11 =>
  ((getR g11 v0 9 8).bind fun p13 =>
  ((getI g11 v0 9 11).bind fun x15 =>
  ((stI g11 p13 0 ((((64 : Int32) * x15) + ((8 : Int32) * v1)) + (1 : Int32)) (v3 + (1 : Int32))).bind fun g17 =>
  ((fX9_needs g17 v0 (41 : Int32)).bind fun q19 =>
  (okb (vp_nar .boolean q19.1 == q19.1) (some (q19.1, q19.2)))))))))) else
  (fX9_readsElement_114 n q4.2 v0 v1 v2 (v3 + (1 : Int32))))))
set_option maxHeartbeats 4000000 in
set_option maxRecDepth 100000 in
theorem bX9_readsElement_114 {K : HK} {E : HE} {r : Int32} {g' : PH}  (C : VC K E 4 cX9_readsElement RX9 (some .boolean))  : ∀ (n : Nat) (g : PH) (v0 : Nat) (v1 : Int32) (v2 : Int32) (v3 : Int32), fX9_readsElement_114  n g v0 v1 v2 v3 = some (r, g') → V K E (hRm 4 87 0 0) 4 (hZ K E (some (.int r)) g' 0 0) 0 0 (kS K) g 114 [(0, .ref v0), (1, .int v1), (2, .int v2), (3, .int v3)] [] := by
  intro n
  induction n with
  | zero =>
    intro g v0 v1 v2 v3 hf
    rw [fX9_readsElement_114] at hf
    cases hf
  | succ n ih =>
    intro g v0 v1 v2 v3 hf
    rw [fX9_readsElement_114] at hf
    refine V.aload_n (pc := 114) C dX9_readsElement_114 0 rfl ?_
    refine V.iload_n (pc := 115) C dX9_readsElement_115 1 rfl ?_
    refine V.iload_n (pc := 116) C dX9_readsElement_116 3 rfl ?_
    replace hf := ob_some hf
    obtain ⟨q1, h2, hf⟩ := hf
    refine V.callV0i (pc := 117) C hyX9_readsOp wd_1262 (mX9_readsOp (r := q1.1) (g' := q1.2) K.2.1 E (kS K) h2) rfl rfl rfl (oX9_readsOp h2) ⟨Nat.le_of_ble_eq_true rfl, Nat.le_of_ble_eq_true rfl⟩ (Nat.le_of_ble_eq_true rfl) dX9_readsElement_117 ⟨Nat.zero_le _, Nat.zero_le _⟩ rfl ?_
    refine V.if_ne (pc := 120) (t := 125) C dX9_readsElement_120 (by decide) (fun c3 => ?_) (fun c3 => ?_)
    · replace hf := ite_f c3 hf
      refine V.iinc (pc := 125) (v := (v3 + (1 : Int32))) (L' := [(3, .int (v3 + (1 : Int32))), (0, .ref v0), (1, .int v1), (2, .int v2)]) C dX9_readsElement_125 3 rfl rfl (by decide) rfl ?_
      refine V.aload_n (pc := 128) C dX9_readsElement_128 1 rfl ?_
      refine V.bipush (pc := 129) C dX9_readsElement_129 (v := (44 : Int32)) (by decide) ?_
      replace hf := ob_some hf
      obtain ⟨q4, h5, hf⟩ := hf
      refine V.callV0i (pc := 131) C hyX9_takes wd_1232 (mX9_takes (r := q4.1) (g' := q4.2) K.2.1 E (kS K) h5) rfl rfl rfl (oX9_takes h5) ⟨Nat.le_of_ble_eq_true rfl, Nat.le_of_ble_eq_true rfl⟩ (Nat.le_of_ble_eq_true rfl) dX9_readsElement_131 ⟨Nat.zero_le _, Nat.zero_le _⟩ rfl ?_
      refine V.if_ne (pc := 134) (t := 114) C dX9_readsElement_134 (by decide) (fun c6 => ?_) (fun c6 => ?_)
      · replace hf := ite_f c6 hf
        refine V.sub (L' := [(0, .ref v0), (1, .int v1), (2, .int v2), (3, .int (v3 + (1 : Int32)))]) [1, 2, 3, 0] rfl ?_
        exact ih _ _ _ _ _ hf
      replace hf := ite_t c6 hf
      refine V.aload_n (pc := 137) C dX9_readsElement_137 1 rfl ?_
      replace hf := ob_some hf
      obtain ⟨p7, h8, hf⟩ := hf
      refine V.getR (pc := 138) C kX9 (k := 8) (by decide) wd_1058 h8 dX9_readsElement_138 ?_
      refine V.bipush (pc := 141) C dX9_readsElement_141 (v := (64 : Int32)) (by decide) ?_
      refine V.aload_n (pc := 143) C dX9_readsElement_143 1 rfl ?_
      replace hf := ob_some hf
      obtain ⟨x9, h10, hf⟩ := hf
      refine V.getI (pc := 144) C kX9 (k := 11) (by decide) wd_1061 h10 dX9_readsElement_144 ?_
      refine V.imul (pc := 147) C dX9_readsElement_147 ?_
      refine V.bipush (pc := 148) C dX9_readsElement_148 (v := (8 : Int32)) (by decide) ?_
      refine V.iload_n (pc := 150) C dX9_readsElement_150 2 rfl ?_
      refine V.imul (pc := 151) C dX9_readsElement_151 ?_
      refine V.iadd (pc := 152) C dX9_readsElement_152 ?_
      refine V.iload_n (pc := 153) C dX9_readsElement_153 3 rfl ?_
      replace hf := ob_some hf
      obtain ⟨g11, h12, hf⟩ := hf
      refine V.iast (pc := 154) C h12 dX9_readsElement_154 ?_
      refine V.aload_n (pc := 155) C dX9_readsElement_155 1 rfl ?_
      replace hf := ob_some hf
      obtain ⟨p13, h14, hf⟩ := hf
      refine V.getR (pc := 156) C kX9 (k := 8) (by decide) wd_1058 h14 dX9_readsElement_156 ?_
      refine V.bipush (pc := 159) C dX9_readsElement_159 (v := (64 : Int32)) (by decide) ?_
      refine V.aload_n (pc := 161) C dX9_readsElement_161 1 rfl ?_
      replace hf := ob_some hf
      obtain ⟨x15, h16, hf⟩ := hf
      refine V.getI (pc := 162) C kX9 (k := 11) (by decide) wd_1061 h16 dX9_readsElement_162 ?_
      refine V.imul (pc := 165) C dX9_readsElement_165 ?_
      refine V.bipush (pc := 166) C dX9_readsElement_166 (v := (8 : Int32)) (by decide) ?_
      refine V.iload_n (pc := 168) C dX9_readsElement_168 2 rfl ?_
      refine V.imul (pc := 169) C dX9_readsElement_169 ?_
      refine V.iadd (pc := 170) C dX9_readsElement_170 ?_
      refine V.iconst (pc := 171) C dX9_readsElement_171 (v := (1 : Int32)) (by decide) ?_
      refine V.iadd (pc := 172) C dX9_readsElement_172 ?_
      refine V.iload_n (pc := 173) C dX9_readsElement_173 0 rfl ?_
      replace hf := ob_some hf
      obtain ⟨g17, h18, hf⟩ := hf
      refine V.iast (pc := 174) C h18 dX9_readsElement_174 ?_
      refine V.aload_n (pc := 175) C dX9_readsElement_175 1 rfl ?_
      refine V.bipush (pc := 176) C dX9_readsElement_176 (v := (41 : Int32)) (by decide) ?_
      replace hf := ob_some hf
      obtain ⟨q19, h20, hf⟩ := hf
      refine V.callV0i (pc := 178) C hyX9_needs wd_1236 (mX9_needs (r := q19.1) (g' := q19.2) K.2.1 E (kS K) h20) rfl rfl rfl (oX9_needs h20) ⟨Nat.le_of_ble_eq_true rfl, Nat.le_of_ble_eq_true rfl⟩ (Nat.le_of_ble_eq_true rfl) dX9_readsElement_178 ⟨Nat.zero_le _, Nat.zero_le _⟩ rfl ?_
      replace hf := okb_some hf
      obtain ⟨h21, hf⟩ := hf
      obtain ⟨f1, f2⟩ := fin2 hf
      clear hf
      subst f1
      subst f2
      exact V.zret (pc := 181) C (nar_z (eq_of_beq h21)) rfl dX9_readsElement_181
    replace hf := ite_t c3 hf
    refine V.iconst (pc := 123) C dX9_readsElement_123 (v := (0 : Int32)) (by decide) ?_
    obtain ⟨f1, f2⟩ := fin2 hf
    clear hf
    subst f1
    subst f2
    exact V.zret (pc := 124) C rfl rfl dX9_readsElement_124
def fX9_readsElement_67  : Nat → PH → Nat → Int32 → Int32 → Option (Int32 × PH)
  | 0, _, _, _, _ => none
  | n + 1, g, v0, v1, v2 =>
  (getI g v0 9 2).bind fun x1 =>
  ((fX9_byteAt g v0 x1).bind fun q3 =>
  ((fX9_isIn q3.2 q3.1.toInt64 (97 : Int64) (122 : Int64)).bind fun q5 =>
  (if q5.1 = 0 then ((fX9_needs q5.2 v0 (40 : Int32)).bind fun q8 =>
  (if q8.1 = 0 then (some ((0 : Int32), q8.2)) else
  (fX9_readsElement_114 FUEL q8.2 v0 v1 v2 (0 : Int32)))) else
  ((getI q5.2 v0 9 2).bind fun x11 =>
  ((putV q5.2 v0 9 2 (.int (x11 + (1 : Int32)))).bind fun g13 =>
  (fX9_readsElement_67 n g13 v0 v1 v2))))))
set_option maxHeartbeats 4000000 in
set_option maxRecDepth 100000 in
theorem bX9_readsElement_67 {K : HK} {E : HE} {r : Int32} {g' : PH}  (C : VC K E 4 cX9_readsElement RX9 (some .boolean))  : ∀ (n : Nat) (g : PH) (v0 : Nat) (v1 : Int32) (v2 : Int32), fX9_readsElement_67  n g v0 v1 v2 = some (r, g') → V K E (hRm 4 87 0 0) 4 (hZ K E (some (.int r)) g' 0 0) 0 0 (kS K) g 67 [(0, .ref v0), (1, .int v1), (2, .int v2)] [] := by
  intro n
  induction n with
  | zero =>
    intro g v0 v1 v2 hf
    rw [fX9_readsElement_67] at hf
    cases hf
  | succ n ih =>
    intro g v0 v1 v2 hf
    rw [fX9_readsElement_67] at hf
    refine V.aload_n (pc := 67) C dX9_readsElement_67 0 rfl ?_
    refine V.aload_n (pc := 68) C dX9_readsElement_68 0 rfl ?_
    replace hf := ob_some hf
    obtain ⟨x1, h2, hf⟩ := hf
    refine V.getI (pc := 69) C kX9 (k := 2) (by decide) wd_1052 h2 dX9_readsElement_69 ?_
    replace hf := ob_some hf
    obtain ⟨q3, h4, hf⟩ := hf
    refine V.callV0i (pc := 72) C hyX9_byteAt wd_1201 (mX9_byteAt (r := q3.1) (g' := q3.2) K.2.1 E (kS K) h4) rfl rfl rfl (oX9_byteAt h4) ⟨Nat.le_of_ble_eq_true rfl, Nat.le_of_ble_eq_true rfl⟩ (Nat.le_of_ble_eq_true rfl) dX9_readsElement_72 ⟨Nat.zero_le _, Nat.zero_le _⟩ rfl ?_
    refine V.i2l (pc := 75) C dX9_readsElement_75 ?_
    refine V.ldc2 (pc := 76) C wd_1260 dX9_readsElement_76 ?_
    refine V.ldc2 (pc := 79) C wd_1261 dX9_readsElement_79 ?_
    replace hf := ob_some hf
    obtain ⟨q5, h6, hf⟩ := hf
    refine V.callS0i (pc := 82) C hyX9_isIn wd_1182 (mX9_isIn (r := q5.1) (g' := q5.2) K.2.1 E (kS K) h6) rfl ⟨Nat.le_of_ble_eq_true rfl, Nat.le_of_ble_eq_true rfl⟩ (Nat.le_of_ble_eq_true rfl) dX9_readsElement_82 ⟨Nat.zero_le _, Nat.zero_le _⟩ rfl ?_
    refine V.if_eq (pc := 85) (t := 101) C dX9_readsElement_85 (by decide) (fun c7 => ?_) (fun c7 => ?_)
    · replace hf := ite_t c7 hf
      refine V.aload_n (pc := 101) C dX9_readsElement_101 0 rfl ?_
      refine V.bipush (pc := 102) C dX9_readsElement_102 (v := (40 : Int32)) (by decide) ?_
      replace hf := ob_some hf
      obtain ⟨q8, h9, hf⟩ := hf
      refine V.callV0i (pc := 104) C hyX9_needs wd_1236 (mX9_needs (r := q8.1) (g' := q8.2) K.2.1 E (kS K) h9) rfl rfl rfl (oX9_needs h9) ⟨Nat.le_of_ble_eq_true rfl, Nat.le_of_ble_eq_true rfl⟩ (Nat.le_of_ble_eq_true rfl) dX9_readsElement_104 ⟨Nat.zero_le _, Nat.zero_le _⟩ rfl ?_
      refine V.if_ne (pc := 107) (t := 112) C dX9_readsElement_107 (by decide) (fun c10 => ?_) (fun c10 => ?_)
      · replace hf := ite_f c10 hf
        refine V.iconst (pc := 112) C dX9_readsElement_112 (v := (0 : Int32)) (by decide) ?_
        refine V.istore_n (pc := 113) (L' := [(3, .int (0 : Int32)), (0, .ref v0), (1, .int v1), (2, .int v2)]) C dX9_readsElement_113 (by decide) rfl ?_
        refine V.sub (L' := [(0, .ref v0), (1, .int v1), (2, .int v2), (3, .int (0 : Int32))]) [1, 2, 3, 0] rfl ?_
        exact bX9_readsElement_114 C  _ _ _ _ _ _ hf
      replace hf := ite_t c10 hf
      refine V.iconst (pc := 110) C dX9_readsElement_110 (v := (0 : Int32)) (by decide) ?_
      obtain ⟨f1, f2⟩ := fin2 hf
      clear hf
      subst f1
      subst f2
      exact V.zret (pc := 111) C rfl rfl dX9_readsElement_111
    replace hf := ite_f c7 hf
    refine V.aload_n (pc := 88) C dX9_readsElement_88 0 rfl ?_
    refine V.dup (pc := 89) C dX9_readsElement_89 rfl ?_
    replace hf := ob_some hf
    obtain ⟨x11, h12, hf⟩ := hf
    refine V.getI (pc := 90) C kX9 (k := 2) (by decide) wd_1052 h12 dX9_readsElement_90 ?_
    refine V.iconst (pc := 93) C dX9_readsElement_93 (v := (1 : Int32)) (by decide) ?_
    refine V.iadd (pc := 94) C dX9_readsElement_94 ?_
    replace hf := ob_some hf
    obtain ⟨g13, h14, hf⟩ := hf
    refine V.putX (pc := 95) C kX9 (k := 2) (by decide) wd_1052 rfl rfl rfl h14 dX9_readsElement_95 ?_
    refine V.goto (pc := 98) (t := 67) C dX9_readsElement_98 (by decide) ?_
    refine V.sub (L' := [(0, .ref v0), (1, .int v1), (2, .int v2)]) [0, 1, 2] rfl ?_
    exact ih _ _ _ _ hf
def fX9_readsElement_63  (g : PH) (v0 : Nat) (v1 : Int32) (v2 : Int32) (s0 : Int32) (s1 : Int32) (s2 : Nat) : Option (Int32 × PH) :=
  (putV g s2 9 14 (.int (s1 + s0))).bind fun g1 =>
  (fX9_readsElement_67 FUEL g1 v0 v1 v2)
set_option maxHeartbeats 4000000 in
set_option maxRecDepth 100000 in
theorem bX9_readsElement_63 {K : HK} {E : HE} {r : Int32} {g' : PH}  (C : VC K E 4 cX9_readsElement RX9 (some .boolean))  {g : PH} {v0 : Nat} {v1 : Int32} {v2 : Int32} {s0 : Int32} {s1 : Int32} {s2 : Nat} (hf : fX9_readsElement_63  g v0 v1 v2 s0 s1 s2 = some (r, g')) : V K E (hRm 4 87 0 0) 4 (hZ K E (some (.int r)) g' 0 0) 0 0 (kS K) g 63 [(0, .ref v0), (1, .int v1), (2, .int v2)] [.int s0, .int s1, .ref s2] := by
  unfold fX9_readsElement_63 at hf
  refine V.iadd (pc := 63) C dX9_readsElement_63 ?_
  replace hf := ob_some hf
  obtain ⟨g1, h2, hf⟩ := hf
  refine V.putX (pc := 64) C kX9 (k := 14) (by decide) wd_1064 rfl rfl rfl h2 dX9_readsElement_64 ?_
  refine V.sub (L' := [(0, .ref v0), (1, .int v1), (2, .int v2)]) [0, 1, 2] rfl ?_
  exact bX9_readsElement_67 C  _ _ _ _ _ hf
def fX9_readsElement_48  (g : PH) (v0 : Nat) (v1 : Int32) (v2 : Int32) : Option (Int32 × PH) :=
  (getI g v0 9 14).bind fun x1 =>
  (if v2 = (2 : Int32) then (fX9_readsElement_63 g v0 v1 v2 (1 : Int32) x1 v0) else
  (fX9_readsElement_63 g v0 v1 v2 (0 : Int32) x1 v0))
set_option maxHeartbeats 4000000 in
set_option maxRecDepth 100000 in
theorem bX9_readsElement_48 {K : HK} {E : HE} {r : Int32} {g' : PH}  (C : VC K E 4 cX9_readsElement RX9 (some .boolean))  {g : PH} {v0 : Nat} {v1 : Int32} {v2 : Int32} (hf : fX9_readsElement_48  g v0 v1 v2 = some (r, g')) : V K E (hRm 4 87 0 0) 4 (hZ K E (some (.int r)) g' 0 0) 0 0 (kS K) g 48 [(0, .ref v0), (1, .int v1), (2, .int v2)] [] := by
  unfold fX9_readsElement_48 at hf
  refine V.aload_n (pc := 48) C dX9_readsElement_48 0 rfl ?_
  refine V.dup (pc := 49) C dX9_readsElement_49 rfl ?_
  replace hf := ob_some hf
  obtain ⟨x1, h2, hf⟩ := hf
  refine V.getI (pc := 50) C kX9 (k := 14) (by decide) wd_1064 h2 dX9_readsElement_50 ?_
  refine V.iload_n (pc := 53) C dX9_readsElement_53 2 rfl ?_
  refine V.iconst (pc := 54) C dX9_readsElement_54 (v := (2 : Int32)) (by decide) ?_
  refine V.icmp_ne (pc := 55) (t := 62) C dX9_readsElement_55 (by decide) (fun c3 => ?_) (fun c3 => ?_)
  · replace hf := ite_f c3 hf
    refine V.iconst (pc := 62) C dX9_readsElement_62 (v := (0 : Int32)) (by decide) ?_
    refine V.sub (L' := [(0, .ref v0), (1, .int v1), (2, .int v2)]) [0, 1, 2] rfl ?_
    exact bX9_readsElement_63 C  hf
  replace hf := ite_t c3 hf
  refine V.iconst (pc := 58) C dX9_readsElement_58 (v := (1 : Int32)) (by decide) ?_
  refine V.goto (pc := 59) (t := 63) C dX9_readsElement_59 (by decide) ?_
  refine V.sub (L' := [(0, .ref v0), (1, .int v1), (2, .int v2)]) [0, 1, 2] rfl ?_
  exact bX9_readsElement_63 C  hf
def fX9_readsElement (g : PH) (a0 : Nat) (a1 : Int32) : Option (Int32 × PH) :=
  okb (isO g a0 9) ((fX9_wayHere g a0).bind fun q1 =>
  (if 0 ≤ q1.1 then (if a1 = (8 : Int32) then (fX9_readsElement_38 q1.2 a0) else
  (if q1.1 = (2 : Int32) then ((getI q1.2 a0 9 14).bind fun x6 =>
  (if x6 = (3 : Int32) then (fX9_readsElement_38 q1.2 a0) else
  (fX9_readsElement_48 q1.2 a0 a1 q1.1))) else
  (fX9_readsElement_48 q1.2 a0 a1 q1.1))) else
  ((getI q1.2 a0 9 2).bind fun x9 =>
  ((fX9_fails q1.2 a0 (1 : Int32) x9).bind fun q11 =>
  (okb (vp_nar .boolean q11.1 == q11.1) (some (q11.1, q11.2)))))))
theorem oX9_readsElement {g : PH} {a0 : Nat} {a1 : Int32} {q : (Int32 × PH)} (h : fX9_readsElement g a0 a1 = some q) : isO g a0 9 = true := by unfold fX9_readsElement at h; exact (okb_some h).1
theorem hyX9_readsElement : hMet yX9_readsElement RX9 cX9_readsElement 4 (some .boolean) 1 := ⟨wd_1255, wd_1254, ws_64, wd_7, rfl, by decide +kernel, by decide +kernel, by decide +kernel⟩
set_option maxHeartbeats 4000000 in
set_option maxRecDepth 100000 in
theorem mX9_readsElement (l : Launch) (E : HE) (sz : Nat) {g g' : PH} {a0 : Nat} {a1 : Int32} {r : Int32} (hf : fX9_readsElement g a0 a1 = some (r, g')) : hM l E yX9_readsElement cX9_readsElement 4 (some .boolean) 4 87 0 0 sz g [.ref a0, .int a1] (some (.int r)) g' := by
  refine hM.of (by decide) (Nat.le_of_ble_eq_true rfl) (fun K hl C hin hsz => ?_)
  subst hl
  subst hsz
  have C : VC K E 4 cX9_readsElement RX9 (some .boolean) := C
  unfold fX9_readsElement at hf
  replace hf := okb_some hf
  obtain ⟨ho, hf⟩ := hf
  refine V.start (L' := [(0, .ref a0), (1, .int a1)]) rfl ?_
  refine V.aload_n (pc := 0) C dX9_readsElement_0 0 rfl ?_
  replace hf := ob_some hf
  obtain ⟨q1, h2, hf⟩ := hf
  refine V.callV0i (pc := 1) C hyX9_wayHere wd_1256 (mX9_wayHere (r := q1.1) (g' := q1.2) K.2.1 E (kS K) h2) rfl rfl rfl (oX9_wayHere h2) ⟨Nat.le_of_ble_eq_true rfl, Nat.le_of_ble_eq_true rfl⟩ (Nat.le_of_ble_eq_true rfl) dX9_readsElement_1 ⟨Nat.zero_le _, Nat.zero_le _⟩ rfl ?_
  refine V.istore_n (pc := 4) (L' := [(2, .int q1.1), (0, .ref a0), (1, .int a1)]) C dX9_readsElement_4 (by decide) rfl ?_
  refine V.iload_n (pc := 5) C dX9_readsElement_5 0 rfl ?_
  refine V.if_ge (pc := 6) (t := 19) C dX9_readsElement_6 (by decide) (fun c3 => ?_) (fun c3 => ?_)
  · replace hf := ite_t c3 hf
    refine V.iload_n (pc := 19) C dX9_readsElement_19 2 rfl ?_
    refine V.bipush (pc := 20) C dX9_readsElement_20 (v := (8 : Int32)) (by decide) ?_
    refine V.icmp_eq (pc := 22) (t := 38) C dX9_readsElement_22 (by decide) (fun c4 => ?_) (fun c4 => ?_)
    · replace hf := ite_t c4 hf
      refine V.sub (L' := [(0, .ref a0)]) [1] rfl ?_
      exact bX9_readsElement_38 C  hf
    replace hf := ite_f c4 hf
    refine V.iload_n (pc := 25) C dX9_readsElement_25 0 rfl ?_
    refine V.iconst (pc := 26) C dX9_readsElement_26 (v := (2 : Int32)) (by decide) ?_
    refine V.icmp_ne (pc := 27) (t := 48) C dX9_readsElement_27 (by decide) (fun c5 => ?_) (fun c5 => ?_)
    · replace hf := ite_f c5 hf
      refine V.sub (L' := [(0, .ref a0), (1, .int a1), (2, .int q1.1)]) [1, 2, 0] rfl ?_
      exact bX9_readsElement_48 C  hf
    replace hf := ite_t c5 hf
    refine V.aload_n (pc := 30) C dX9_readsElement_30 1 rfl ?_
    replace hf := ob_some hf
    obtain ⟨x6, h7, hf⟩ := hf
    refine V.getI (pc := 31) C kX9 (k := 14) (by decide) wd_1064 h7 dX9_readsElement_31 ?_
    refine V.iconst (pc := 34) C dX9_readsElement_34 (v := (3 : Int32)) (by decide) ?_
    refine V.icmp_ne (pc := 35) (t := 48) C dX9_readsElement_35 (by decide) (fun c8 => ?_) (fun c8 => ?_)
    · replace hf := ite_f c8 hf
      refine V.sub (L' := [(0, .ref a0), (1, .int a1), (2, .int q1.1)]) [1, 2, 0] rfl ?_
      exact bX9_readsElement_48 C  hf
    replace hf := ite_t c8 hf
    refine V.sub (L' := [(0, .ref a0)]) [1] rfl ?_
    exact bX9_readsElement_38 C  hf
  replace hf := ite_f c3 hf
  refine V.aload_n (pc := 9) C dX9_readsElement_9 1 rfl ?_
  refine V.iconst (pc := 10) C dX9_readsElement_10 (v := (1 : Int32)) (by decide) ?_
  refine V.aload_n (pc := 11) C dX9_readsElement_11 1 rfl ?_
  replace hf := ob_some hf
  obtain ⟨x9, h10, hf⟩ := hf
  refine V.getI (pc := 12) C kX9 (k := 2) (by decide) wd_1052 h10 dX9_readsElement_12 ?_
  replace hf := ob_some hf
  obtain ⟨q11, h12, hf⟩ := hf
  refine V.callV0i (pc := 15) C hyX9_fails wd_1208 (mX9_fails (r := q11.1) (g' := q11.2) K.2.1 E (kS K) h12) rfl rfl rfl (oX9_fails h12) ⟨Nat.le_of_ble_eq_true rfl, Nat.le_of_ble_eq_true rfl⟩ (Nat.le_of_ble_eq_true rfl) dX9_readsElement_15 ⟨Nat.zero_le _, Nat.zero_le _⟩ rfl ?_
  replace hf := okb_some hf
  obtain ⟨h13, hf⟩ := hf
  obtain ⟨f1, f2⟩ := fin2 hf
  clear hf
  subst f1
  subst f2
  exact V.zret (pc := 18) C (nar_z (eq_of_beq h13)) rfl dX9_readsElement_18
theorem dX9_readsMarch_0 : decode cX9_readsMarch 0 = .ok (.aload_n 0, 1) := by decide +kernel
theorem dX9_readsMarch_1 : decode cX9_readsMarch 1 = .ok (.iconst 0, 1) := by decide +kernel
theorem dX9_readsMarch_2 : decode cX9_readsMarch 2 = .ok (.putfield 93, 3) := by decide +kernel
theorem dX9_readsMarch_5 : decode cX9_readsMarch 5 = .ok (.aload_n 0, 1) := by decide +kernel
theorem dX9_readsMarch_6 : decode cX9_readsMarch 6 = .ok (.iconst (-1), 1) := by decide +kernel
theorem dX9_readsMarch_7 : decode cX9_readsMarch 7 = .ok (.putfield 156, 3) := by decide +kernel
theorem dX9_readsMarch_10 : decode cX9_readsMarch 10 = .ok (.aload_n 0, 1) := by decide +kernel
theorem dX9_readsMarch_11 : decode cX9_readsMarch 11 = .ok (.iconst 0, 1) := by decide +kernel
theorem dX9_readsMarch_12 : decode cX9_readsMarch 12 = .ok (.putfield 165, 3) := by decide +kernel
theorem dX9_readsMarch_15 : decode cX9_readsMarch 15 = .ok (.iconst 0, 1) := by decide +kernel
theorem dX9_readsMarch_16 : decode cX9_readsMarch 16 = .ok (.istore_n 1, 1) := by decide +kernel
theorem dX9_readsMarch_17 : decode cX9_readsMarch 17 = .ok (.aload_n 0, 1) := by decide +kernel
theorem dX9_readsMarch_18 : decode cX9_readsMarch 18 = .ok (.iload_n 1, 1) := by decide +kernel
theorem dX9_readsMarch_19 : decode cX9_readsMarch 19 = .ok (.invokevirtual 171, 3) := by decide +kernel
theorem dX9_readsMarch_22 : decode cX9_readsMarch 22 = .ok (.ifCond .ne 5, 3) := by decide +kernel
theorem dX9_readsMarch_25 : decode cX9_readsMarch 25 = .ok (.iconst 0, 1) := by decide +kernel
theorem dX9_readsMarch_26 : decode cX9_readsMarch 26 = .ok (.ireturn, 1) := by decide +kernel
theorem dX9_readsMarch_27 : decode cX9_readsMarch 27 = .ok (.iinc 1 1, 3) := by decide +kernel
theorem dX9_readsMarch_30 : decode cX9_readsMarch 30 = .ok (.aload_n 0, 1) := by decide +kernel
theorem dX9_readsMarch_31 : decode cX9_readsMarch 31 = .ok (.bipush 59, 2) := by decide +kernel
theorem dX9_readsMarch_33 : decode cX9_readsMarch 33 = .ok (.invokevirtual 104, 3) := by decide +kernel
theorem dX9_readsMarch_36 : decode cX9_readsMarch 36 = .ok (.ifCond .ne (-19), 3) := by decide +kernel
theorem dX9_readsMarch_39 : decode cX9_readsMarch 39 = .ok (.aload_n 0, 1) := by decide +kernel
theorem dX9_readsMarch_40 : decode cX9_readsMarch 40 = .ok (.getfield 23, 3) := by decide +kernel
theorem dX9_readsMarch_43 : decode cX9_readsMarch 43 = .ok (.aload_n 0, 1) := by decide +kernel
theorem dX9_readsMarch_44 : decode cX9_readsMarch 44 = .ok (.getfield 159, 3) := by decide +kernel
theorem dX9_readsMarch_47 : decode cX9_readsMarch 47 = .ok (.iload_n 1, 1) := by decide +kernel
theorem dX9_readsMarch_48 : decode cX9_readsMarch 48 = .ok (.iastore, 1) := by decide +kernel
theorem dX9_readsMarch_49 : decode cX9_readsMarch 49 = .ok (.aload_n 0, 1) := by decide +kernel
theorem dX9_readsMarch_50 : decode cX9_readsMarch 50 = .ok (.getfield 26, 3) := by decide +kernel
theorem dX9_readsMarch_53 : decode cX9_readsMarch 53 = .ok (.aload_n 0, 1) := by decide +kernel
theorem dX9_readsMarch_54 : decode cX9_readsMarch 54 = .ok (.getfield 159, 3) := by decide +kernel
theorem dX9_readsMarch_57 : decode cX9_readsMarch 57 = .ok (.aload_n 0, 1) := by decide +kernel
theorem dX9_readsMarch_58 : decode cX9_readsMarch 58 = .ok (.getfield 156, 3) := by decide +kernel
theorem dX9_readsMarch_61 : decode cX9_readsMarch 61 = .ok (.iastore, 1) := by decide +kernel
theorem dX9_readsMarch_62 : decode cX9_readsMarch 62 = .ok (.aload_n 0, 1) := by decide +kernel
theorem dX9_readsMarch_63 : decode cX9_readsMarch 63 = .ok (.invokevirtual 100, 3) := by decide +kernel
theorem dX9_readsMarch_66 : decode cX9_readsMarch 66 = .ok (.iconst (-1), 1) := by decide +kernel
theorem dX9_readsMarch_67 : decode cX9_readsMarch 67 = .ok (.if_icmp .eq 15, 3) := by decide +kernel
theorem dX9_readsMarch_70 : decode cX9_readsMarch 70 = .ok (.aload_n 0, 1) := by decide +kernel
theorem dX9_readsMarch_71 : decode cX9_readsMarch 71 = .ok (.iconst 1, 1) := by decide +kernel
theorem dX9_readsMarch_72 : decode cX9_readsMarch 72 = .ok (.aload_n 0, 1) := by decide +kernel
theorem dX9_readsMarch_73 : decode cX9_readsMarch 73 = .ok (.getfield 93, 3) := by decide +kernel
theorem dX9_readsMarch_76 : decode cX9_readsMarch 76 = .ok (.invokevirtual 108, 3) := by decide +kernel
theorem dX9_readsMarch_79 : decode cX9_readsMarch 79 = .ok (.ifCond .eq 7, 3) := by decide +kernel
theorem dX9_readsMarch_82 : decode cX9_readsMarch 82 = .ok (.iconst 1, 1) := by decide +kernel
theorem dX9_readsMarch_83 : decode cX9_readsMarch 83 = .ok (.goto 4, 3) := by decide +kernel
theorem dX9_readsMarch_86 : decode cX9_readsMarch 86 = .ok (.iconst 0, 1) := by decide +kernel
theorem dX9_readsMarch_87 : decode cX9_readsMarch 87 = .ok (.ireturn, 1) := by decide +kernel
def fX9_readsMarch_17  : Nat → PH → Nat → Int32 → Option (Int32 × PH)
  | 0, _, _, _ => none
  | n + 1, g, v0, v1 =>
  (fX9_readsElement g v0 v1).bind fun q1 =>
  (if q1.1 = 0 then (some ((0 : Int32), q1.2)) else
  ((fX9_takes q1.2 v0 (59 : Int32)).bind fun q4 =>
  (if q4.1 = 0 then ((getR q4.2 v0 9 9).bind fun p7 =>
  ((getI q4.2 v0 9 11).bind fun x9 =>
  ((stI q4.2 p7 0 x9 (v1 + (1 : Int32))).bind fun g11 =>
  ((getR g11 v0 9 10).bind fun p13 =>
  ((getI g11 v0 9 11).bind fun x15 =>
  ((getI g11 v0 9 13).bind fun x17 =>
  ((stI g11 p13 0 x15 x17).bind fun g19 =>
  ((fX9_next g19 v0).bind fun q21 =>
  (if q21.1 = (-1 : Int32) then (some ((1 : Int32), q21.2)) else
  ((getI q21.2 v0 9 2).bind fun x24 =>
  ((fX9_fails q21.2 v0 (1 : Int32) x24).bind fun q26 =>
  (if q26.1 = 0 then (some ((0 : Int32), q26.2)) else
  (some ((1 : Int32), q26.2)))))))))))))) else
  (fX9_readsMarch_17 n q4.2 v0 (v1 + (1 : Int32))))))
set_option maxHeartbeats 4000000 in
set_option maxRecDepth 100000 in
theorem bX9_readsMarch_17 {K : HK} {E : HE} {r : Int32} {g' : PH}  (C : VC K E 2 cX9_readsMarch RX9 (some .boolean))  : ∀ (n : Nat) (g : PH) (v0 : Nat) (v1 : Int32), fX9_readsMarch_17  n g v0 v1 = some (r, g') → V K E (hRm 5 110 0 0) 2 (hZ K E (some (.int r)) g' 0 0) 0 0 (kS K) g 17 [(0, .ref v0), (1, .int v1)] [] := by
  intro n
  induction n with
  | zero =>
    intro g v0 v1 hf
    rw [fX9_readsMarch_17] at hf
    cases hf
  | succ n ih =>
    intro g v0 v1 hf
    rw [fX9_readsMarch_17] at hf
    refine V.aload_n (pc := 17) C dX9_readsMarch_17 0 rfl ?_
    refine V.iload_n (pc := 18) C dX9_readsMarch_18 1 rfl ?_
    replace hf := ob_some hf
    obtain ⟨q1, h2, hf⟩ := hf
    refine V.callV0i (pc := 19) C hyX9_readsElement wd_1252 (mX9_readsElement (r := q1.1) (g' := q1.2) K.2.1 E (kS K) h2) rfl rfl rfl (oX9_readsElement h2) ⟨Nat.le_of_ble_eq_true rfl, Nat.le_of_ble_eq_true rfl⟩ (Nat.le_of_ble_eq_true rfl) dX9_readsMarch_19 ⟨Nat.zero_le _, Nat.zero_le _⟩ rfl ?_
    refine V.if_ne (pc := 22) (t := 27) C dX9_readsMarch_22 (by decide) (fun c3 => ?_) (fun c3 => ?_)
    · replace hf := ite_f c3 hf
      refine V.iinc (pc := 27) (v := (v1 + (1 : Int32))) (L' := [(1, .int (v1 + (1 : Int32))), (0, .ref v0)]) C dX9_readsMarch_27 1 rfl rfl (by decide) rfl ?_
      refine V.aload_n (pc := 30) C dX9_readsMarch_30 1 rfl ?_
      refine V.bipush (pc := 31) C dX9_readsMarch_31 (v := (59 : Int32)) (by decide) ?_
      replace hf := ob_some hf
      obtain ⟨q4, h5, hf⟩ := hf
      refine V.callV0i (pc := 33) C hyX9_takes wd_1232 (mX9_takes (r := q4.1) (g' := q4.2) K.2.1 E (kS K) h5) rfl rfl rfl (oX9_takes h5) ⟨Nat.le_of_ble_eq_true rfl, Nat.le_of_ble_eq_true rfl⟩ (Nat.le_of_ble_eq_true rfl) dX9_readsMarch_33 ⟨Nat.zero_le _, Nat.zero_le _⟩ rfl ?_
      refine V.if_ne (pc := 36) (t := 17) C dX9_readsMarch_36 (by decide) (fun c6 => ?_) (fun c6 => ?_)
      · replace hf := ite_f c6 hf
        refine V.sub (L' := [(0, .ref v0), (1, .int (v1 + (1 : Int32)))]) [1, 0] rfl ?_
        exact ih _ _ _ hf
      replace hf := ite_t c6 hf
      refine V.aload_n (pc := 39) C dX9_readsMarch_39 1 rfl ?_
      replace hf := ob_some hf
      obtain ⟨p7, h8, hf⟩ := hf
      refine V.getR (pc := 40) C kX9 (k := 9) (by decide) wd_1059 h8 dX9_readsMarch_40 ?_
      refine V.aload_n (pc := 43) C dX9_readsMarch_43 1 rfl ?_
      replace hf := ob_some hf
      obtain ⟨x9, h10, hf⟩ := hf
      refine V.getI (pc := 44) C kX9 (k := 11) (by decide) wd_1061 h10 dX9_readsMarch_44 ?_
      refine V.iload_n (pc := 47) C dX9_readsMarch_47 0 rfl ?_
      replace hf := ob_some hf
      obtain ⟨g11, h12, hf⟩ := hf
      refine V.iast (pc := 48) C h12 dX9_readsMarch_48 ?_
      refine V.aload_n (pc := 49) C dX9_readsMarch_49 1 rfl ?_
      replace hf := ob_some hf
      obtain ⟨p13, h14, hf⟩ := hf
      refine V.getR (pc := 50) C kX9 (k := 10) (by decide) wd_1060 h14 dX9_readsMarch_50 ?_
      refine V.aload_n (pc := 53) C dX9_readsMarch_53 1 rfl ?_
      replace hf := ob_some hf
      obtain ⟨x15, h16, hf⟩ := hf
      refine V.getI (pc := 54) C kX9 (k := 11) (by decide) wd_1061 h16 dX9_readsMarch_54 ?_
      refine V.aload_n (pc := 57) C dX9_readsMarch_57 1 rfl ?_
      replace hf := ob_some hf
      obtain ⟨x17, h18, hf⟩ := hf
      refine V.getI (pc := 58) C kX9 (k := 13) (by decide) wd_1063 h18 dX9_readsMarch_58 ?_
      replace hf := ob_some hf
      obtain ⟨g19, h20, hf⟩ := hf
      refine V.iast (pc := 61) C h20 dX9_readsMarch_61 ?_
      refine V.aload_n (pc := 62) C dX9_readsMarch_62 1 rfl ?_
      replace hf := ob_some hf
      obtain ⟨q21, h22, hf⟩ := hf
      refine V.callV0i (pc := 63) C hyX9_next wd_1197 (mX9_next (r := q21.1) (g' := q21.2) K.2.1 E (kS K) h22) rfl rfl rfl (oX9_next h22) ⟨Nat.le_of_ble_eq_true rfl, Nat.le_of_ble_eq_true rfl⟩ (Nat.le_of_ble_eq_true rfl) dX9_readsMarch_63 ⟨Nat.zero_le _, Nat.zero_le _⟩ rfl ?_
      refine V.iconst (pc := 66) C dX9_readsMarch_66 (v := (-1 : Int32)) (by decide) ?_
      refine V.icmp_eq (pc := 67) (t := 82) C dX9_readsMarch_67 (by decide) (fun c23 => ?_) (fun c23 => ?_)
      · replace hf := ite_t c23 hf
        refine V.iconst (pc := 82) C dX9_readsMarch_82 (v := (1 : Int32)) (by decide) ?_
        refine V.goto (pc := 83) (t := 87) C dX9_readsMarch_83 (by decide) ?_
        obtain ⟨f1, f2⟩ := fin2 hf
        clear hf
        subst f1
        subst f2
        exact V.zret (pc := 87) C rfl rfl dX9_readsMarch_87
      replace hf := ite_f c23 hf
      refine V.aload_n (pc := 70) C dX9_readsMarch_70 1 rfl ?_
      refine V.iconst (pc := 71) C dX9_readsMarch_71 (v := (1 : Int32)) (by decide) ?_
      refine V.aload_n (pc := 72) C dX9_readsMarch_72 1 rfl ?_
      replace hf := ob_some hf
      obtain ⟨x24, h25, hf⟩ := hf
      refine V.getI (pc := 73) C kX9 (k := 2) (by decide) wd_1052 h25 dX9_readsMarch_73 ?_
      replace hf := ob_some hf
      obtain ⟨q26, h27, hf⟩ := hf
      refine V.callV0i (pc := 76) C hyX9_fails wd_1208 (mX9_fails (r := q26.1) (g' := q26.2) K.2.1 E (kS K) h27) rfl rfl rfl (oX9_fails h27) ⟨Nat.le_of_ble_eq_true rfl, Nat.le_of_ble_eq_true rfl⟩ (Nat.le_of_ble_eq_true rfl) dX9_readsMarch_76 ⟨Nat.zero_le _, Nat.zero_le _⟩ rfl ?_
      refine V.if_eq (pc := 79) (t := 86) C dX9_readsMarch_79 (by decide) (fun c28 => ?_) (fun c28 => ?_)
      · replace hf := ite_t c28 hf
        refine V.iconst (pc := 86) C dX9_readsMarch_86 (v := (0 : Int32)) (by decide) ?_
        obtain ⟨f1, f2⟩ := fin2 hf
        clear hf
        subst f1
        subst f2
        exact V.zret (pc := 87) C rfl rfl dX9_readsMarch_87
      replace hf := ite_f c28 hf
      refine V.iconst (pc := 82) C dX9_readsMarch_82 (v := (1 : Int32)) (by decide) ?_
      refine V.goto (pc := 83) (t := 87) C dX9_readsMarch_83 (by decide) ?_
      obtain ⟨f1, f2⟩ := fin2 hf
      clear hf
      subst f1
      subst f2
      exact V.zret (pc := 87) C rfl rfl dX9_readsMarch_87
    replace hf := ite_t c3 hf
    refine V.iconst (pc := 25) C dX9_readsMarch_25 (v := (0 : Int32)) (by decide) ?_
    obtain ⟨f1, f2⟩ := fin2 hf
    clear hf
    subst f1
    subst f2
    exact V.zret (pc := 26) C rfl rfl dX9_readsMarch_26
def fX9_readsMarch (g : PH) (a0 : Nat) : Option (Int32 × PH) :=
  okb (isO g a0 9) ((putV g a0 9 2 (.int (0 : Int32))).bind fun g1 =>
  ((putV g1 a0 9 13 (.int (-1 : Int32))).bind fun g3 =>
  ((putV g3 a0 9 14 (.int (0 : Int32))).bind fun g5 =>
  (fX9_readsMarch_17 FUEL g5 a0 (0 : Int32)))))
theorem oX9_readsMarch {g : PH} {a0 : Nat} {q : (Int32 × PH)} (h : fX9_readsMarch g a0 = some q) : isO g a0 9 = true := by unfold fX9_readsMarch at h; exact (okb_some h).1
theorem hyX9_readsMarch : hMet yX9_readsMarch RX9 cX9_readsMarch 2 (some .boolean) 0 := ⟨wd_1251, wd_1250, ws_63, wd_7, rfl, by decide +kernel, by decide +kernel, by decide +kernel⟩
set_option maxHeartbeats 4000000 in
set_option maxRecDepth 100000 in
theorem mX9_readsMarch (l : Launch) (E : HE) (sz : Nat) {g g' : PH} {a0 : Nat} {r : Int32} (hf : fX9_readsMarch g a0 = some (r, g')) : hM l E yX9_readsMarch cX9_readsMarch 2 (some .boolean) 5 110 0 0 sz g [.ref a0] (some (.int r)) g' := by
  refine hM.of (by decide) (Nat.le_of_ble_eq_true rfl) (fun K hl C hin hsz => ?_)
  subst hl
  subst hsz
  have C : VC K E 2 cX9_readsMarch RX9 (some .boolean) := C
  unfold fX9_readsMarch at hf
  replace hf := okb_some hf
  obtain ⟨ho, hf⟩ := hf
  refine V.start (L' := [(0, .ref a0)]) rfl ?_
  refine V.aload_n (pc := 0) C dX9_readsMarch_0 0 rfl ?_
  refine V.iconst (pc := 1) C dX9_readsMarch_1 (v := (0 : Int32)) (by decide) ?_
  replace hf := ob_some hf
  obtain ⟨g1, h2, hf⟩ := hf
  refine V.putX (pc := 2) C kX9 (k := 2) (by decide) wd_1052 rfl rfl rfl h2 dX9_readsMarch_2 ?_
  refine V.aload_n (pc := 5) C dX9_readsMarch_5 0 rfl ?_
  refine V.iconst (pc := 6) C dX9_readsMarch_6 (v := (-1 : Int32)) (by decide) ?_
  replace hf := ob_some hf
  obtain ⟨g3, h4, hf⟩ := hf
  refine V.putX (pc := 7) C kX9 (k := 13) (by decide) wd_1063 rfl rfl rfl h4 dX9_readsMarch_7 ?_
  refine V.aload_n (pc := 10) C dX9_readsMarch_10 0 rfl ?_
  refine V.iconst (pc := 11) C dX9_readsMarch_11 (v := (0 : Int32)) (by decide) ?_
  replace hf := ob_some hf
  obtain ⟨g5, h6, hf⟩ := hf
  refine V.putX (pc := 12) C kX9 (k := 14) (by decide) wd_1064 rfl rfl rfl h6 dX9_readsMarch_12 ?_
  refine V.iconst (pc := 15) C dX9_readsMarch_15 (v := (0 : Int32)) (by decide) ?_
  refine V.istore_n (pc := 16) (L' := [(1, .int (0 : Int32)), (0, .ref a0)]) C dX9_readsMarch_16 (by decide) rfl ?_
  refine V.sub (L' := [(0, .ref a0), (1, .int (0 : Int32))]) [1, 0] rfl ?_
  exact bX9_readsMarch_17 C  _ _ _ _ hf
