/-! Constructors by the heap alone. -/
theorem st_step {g : PH} {a kd n k : Nat} {f : Nat → Int32} {j x : Int32} (h : g a = some (.inl (kd, n, .inl f))) (hin : inb j n = true) (hk : j.toNatClampNeg = k) : ∃ g', stI g a kd j x = some g' ∧ g' a = some (.inl (kd, n, .inl (upd f k x))) ∧ ∀ b, b ≠ a → g' b = g b := by
  subst hk
  refine ⟨hup g a (.inl (kd, n, .inl (upd f j.toNatClampNeg x))), ?_, hup_eq, fun b hb => hup_ne hb⟩
  unfold stI aI
  rw [h]
  dsimp only
  rw [if_pos rfl]
  dsimp only
  rw [if_pos hin]
theorem getR_of {g : PH} {a ci k p : Nat} {fs : List Value} (h : g a = some (.inr (ci, fs))) (hk : fs[k]? = some (.ref p)) : getR g a ci k = some p := by
  unfold getR getV
  rw [h]
  dsimp only
  rw [if_pos rfl, hk]
set_option maxHeartbeats 4000000 in
set_option maxRecDepth 100000 in
theorem cxX6 (sz : Nat) (g : PH) : ∃ g', (fX6_init (sz + 1) (hup g sz (.inr (6, dfX6))) sz = some ((), g', 1, 200)) ∧ (∀ b, b < sz → g' b = g b) ∧ g' sz = some (.inr (6, [.ref (sz + 1), .int 0, .int 0, .int 0])) ∧ g' (sz + 1) = some (.inl (1, 200, .inl (fun _ => 0))) := by
  have o0 : hup g sz (.inr (6, dfX6)) sz = some (.inr (6, [.null, .int 0, .int 0, .int 0])) := hup_eq
  have b0 : ∀ b, b < sz → hup g sz (.inr (6, dfX6)) b = g b := fun b hb => hup_ne (by omega)
  have o1 : (hup (hup g sz (.inr (6, dfX6))) (sz + 1) (.inl (1, 200, .inl (fun _ => 0)))) sz = some (.inr (6, [.null, .int 0, .int 0, .int 0])) := (hup_ne (by omega)).trans o0
  have b1 : ∀ b, b < sz → (hup (hup g sz (.inr (6, dfX6))) (sz + 1) (.inl (1, 200, .inl (fun _ => 0)))) b = g b := fun b hb => (hup_ne (by omega)).trans (b0 b hb)
  have a1_1 : (hup (hup g sz (.inr (6, dfX6))) (sz + 1) (.inl (1, 200, .inl (fun _ => 0)))) (sz + 1) = some (.inl (1, 200, .inl (fun _ => 0))) := hup_eq
  obtain ⟨g2, e2, o2, x2⟩ := put_step (k := 0) (v := .ref (sz + 1)) (fs' := [.ref (sz + 1), .int 0, .int 0, .int 0]) o1 (Nat.le_of_ble_eq_true rfl) rfl
  have b2 : ∀ b, b < sz → g2 b = g b := fun b hb => (x2 b (by omega)).trans (b1 b hb)
  have a2_1 : g2 (sz + 1) = some (.inl (1, 200, .inl (fun _ => 0))) := (x2 _ (by omega)).trans a1_1
  obtain ⟨g3, e3, o3, x3⟩ := put_step (k := 1) (v := .int 0) (fs' := [.ref (sz + 1), .int 0, .int 0, .int 0]) o2 (Nat.le_of_ble_eq_true rfl) rfl
  have b3 : ∀ b, b < sz → g3 b = g b := fun b hb => (x3 b (by omega)).trans (b2 b hb)
  have a3_1 : g3 (sz + 1) = some (.inl (1, 200, .inl (fun _ => 0))) := (x3 _ (by omega)).trans a2_1
  obtain ⟨g4, e4, o4, x4⟩ := put_step (k := 2) (v := .int 0) (fs' := [.ref (sz + 1), .int 0, .int 0, .int 0]) o3 (Nat.le_of_ble_eq_true rfl) rfl
  have b4 : ∀ b, b < sz → g4 b = g b := fun b hb => (x4 b (by omega)).trans (b3 b hb)
  have a4_1 : g4 (sz + 1) = some (.inl (1, 200, .inl (fun _ => 0))) := (x4 _ (by omega)).trans a3_1
  obtain ⟨g5, e5, o5, x5⟩ := put_step (k := 3) (v := .int 0) (fs' := [.ref (sz + 1), .int 0, .int 0, .int 0]) o4 (Nat.le_of_ble_eq_true rfl) rfl
  have b5 : ∀ b, b < sz → g5 b = g b := fun b hb => (x5 b (by omega)).trans (b4 b hb)
  have a5_1 : g5 (sz + 1) = some (.inl (1, 200, .inl (fun _ => 0))) := (x5 _ (by omega)).trans a4_1
  refine ⟨g5, ?_, b5, o5, a5_1⟩
  unfold fX6_init
  refine bmp_of (m1 := 0) (s1 := 0) ?_ rfl rfl
  refine ob_of e2 ?_
  refine ob_of e3 ?_
  refine ob_of e4 ?_
  refine ob_of e5 ?_
  rfl
set_option maxHeartbeats 4000000 in
set_option maxRecDepth 100000 in
theorem cxX3 (sz : Nat) (g : PH) : ∃ g', (fX3_init (sz + 1) (hup g sz (.inr (3, dfX3))) sz = some ((), g', 2, 66)) ∧ (∀ b, b < sz → g' b = g b) ∧ g' sz = some (.inr (3, [.int 2, .int 0, .null, .int (-1), .int (-1), .int (-1), .int (-1), .int 0, .int (-1), .int 0, .ref (sz + 1), .ref (sz + 2)])) ∧ g' (sz + 1) = some (.inl (0, 6, .inl (fun _ => 0))) ∧ g' (sz + 2) = some (.inl (0, 60, .inl (fun _ => 0))) := by
  have o0 : hup g sz (.inr (3, dfX3)) sz = some (.inr (3, [.int 0, .int 0, .null, .int 0, .int 0, .int 0, .int 0, .int 0, .int 0, .int 0, .null, .null])) := hup_eq
  have b0 : ∀ b, b < sz → hup g sz (.inr (3, dfX3)) b = g b := fun b hb => hup_ne (by omega)
  obtain ⟨g1, e1, o1, x1⟩ := put_step (k := 0) (v := .int 2) (fs' := [.int 2, .int 0, .null, .int 0, .int 0, .int 0, .int 0, .int 0, .int 0, .int 0, .null, .null]) o0 (Nat.le_of_ble_eq_true rfl) rfl
  have b1 : ∀ b, b < sz → g1 b = g b := fun b hb => (x1 b (by omega)).trans (b0 b hb)
  obtain ⟨g2, e2, o2, x2⟩ := put_step (k := 1) (v := .int 0) (fs' := [.int 2, .int 0, .null, .int 0, .int 0, .int 0, .int 0, .int 0, .int 0, .int 0, .null, .null]) o1 (Nat.le_of_ble_eq_true rfl) rfl
  have b2 : ∀ b, b < sz → g2 b = g b := fun b hb => (x2 b (by omega)).trans (b1 b hb)
  obtain ⟨g3, e3, o3, x3⟩ := put_step (k := 2) (v := .null) (fs' := [.int 2, .int 0, .null, .int 0, .int 0, .int 0, .int 0, .int 0, .int 0, .int 0, .null, .null]) o2 (Nat.le_of_ble_eq_true rfl) rfl
  have b3 : ∀ b, b < sz → g3 b = g b := fun b hb => (x3 b (by omega)).trans (b2 b hb)
  obtain ⟨g4, e4, o4, x4⟩ := put_step (k := 3) (v := .int (-1)) (fs' := [.int 2, .int 0, .null, .int (-1), .int 0, .int 0, .int 0, .int 0, .int 0, .int 0, .null, .null]) o3 (Nat.le_of_ble_eq_true rfl) rfl
  have b4 : ∀ b, b < sz → g4 b = g b := fun b hb => (x4 b (by omega)).trans (b3 b hb)
  obtain ⟨g5, e5, o5, x5⟩ := put_step (k := 4) (v := .int (-1)) (fs' := [.int 2, .int 0, .null, .int (-1), .int (-1), .int 0, .int 0, .int 0, .int 0, .int 0, .null, .null]) o4 (Nat.le_of_ble_eq_true rfl) rfl
  have b5 : ∀ b, b < sz → g5 b = g b := fun b hb => (x5 b (by omega)).trans (b4 b hb)
  obtain ⟨g6, e6, o6, x6⟩ := put_step (k := 5) (v := .int (-1)) (fs' := [.int 2, .int 0, .null, .int (-1), .int (-1), .int (-1), .int 0, .int 0, .int 0, .int 0, .null, .null]) o5 (Nat.le_of_ble_eq_true rfl) rfl
  have b6 : ∀ b, b < sz → g6 b = g b := fun b hb => (x6 b (by omega)).trans (b5 b hb)
  obtain ⟨g7, e7, o7, x7⟩ := put_step (k := 6) (v := .int (-1)) (fs' := [.int 2, .int 0, .null, .int (-1), .int (-1), .int (-1), .int (-1), .int 0, .int 0, .int 0, .null, .null]) o6 (Nat.le_of_ble_eq_true rfl) rfl
  have b7 : ∀ b, b < sz → g7 b = g b := fun b hb => (x7 b (by omega)).trans (b6 b hb)
  obtain ⟨g8, e8, o8, x8⟩ := put_step (k := 7) (v := .int 0) (fs' := [.int 2, .int 0, .null, .int (-1), .int (-1), .int (-1), .int (-1), .int 0, .int 0, .int 0, .null, .null]) o7 (Nat.le_of_ble_eq_true rfl) rfl
  have b8 : ∀ b, b < sz → g8 b = g b := fun b hb => (x8 b (by omega)).trans (b7 b hb)
  obtain ⟨g9, e9, o9, x9⟩ := put_step (k := 8) (v := .int (-1)) (fs' := [.int 2, .int 0, .null, .int (-1), .int (-1), .int (-1), .int (-1), .int 0, .int (-1), .int 0, .null, .null]) o8 (Nat.le_of_ble_eq_true rfl) rfl
  have b9 : ∀ b, b < sz → g9 b = g b := fun b hb => (x9 b (by omega)).trans (b8 b hb)
  obtain ⟨g10, e10, o10, x10⟩ := put_step (k := 9) (v := .int 0) (fs' := [.int 2, .int 0, .null, .int (-1), .int (-1), .int (-1), .int (-1), .int 0, .int (-1), .int 0, .null, .null]) o9 (Nat.le_of_ble_eq_true rfl) rfl
  have b10 : ∀ b, b < sz → g10 b = g b := fun b hb => (x10 b (by omega)).trans (b9 b hb)
  have o11 : (hup g10 (sz + 1) (.inl (0, 6, .inl (fun _ => 0)))) sz = some (.inr (3, [.int 2, .int 0, .null, .int (-1), .int (-1), .int (-1), .int (-1), .int 0, .int (-1), .int 0, .null, .null])) := (hup_ne (by omega)).trans o10
  have b11 : ∀ b, b < sz → (hup g10 (sz + 1) (.inl (0, 6, .inl (fun _ => 0)))) b = g b := fun b hb => (hup_ne (by omega)).trans (b10 b hb)
  have a11_1 : (hup g10 (sz + 1) (.inl (0, 6, .inl (fun _ => 0)))) (sz + 1) = some (.inl (0, 6, .inl (fun _ => 0))) := hup_eq
  obtain ⟨g12, e12, o12, x12⟩ := put_step (k := 10) (v := .ref (sz + 1)) (fs' := [.int 2, .int 0, .null, .int (-1), .int (-1), .int (-1), .int (-1), .int 0, .int (-1), .int 0, .ref (sz + 1), .null]) o11 (Nat.le_of_ble_eq_true rfl) rfl
  have b12 : ∀ b, b < sz → g12 b = g b := fun b hb => (x12 b (by omega)).trans (b11 b hb)
  have a12_1 : g12 (sz + 1) = some (.inl (0, 6, .inl (fun _ => 0))) := (x12 _ (by omega)).trans a11_1
  have o13 : (hup g12 (sz + 2) (.inl (0, 60, .inl (fun _ => 0)))) sz = some (.inr (3, [.int 2, .int 0, .null, .int (-1), .int (-1), .int (-1), .int (-1), .int 0, .int (-1), .int 0, .ref (sz + 1), .null])) := (hup_ne (by omega)).trans o12
  have b13 : ∀ b, b < sz → (hup g12 (sz + 2) (.inl (0, 60, .inl (fun _ => 0)))) b = g b := fun b hb => (hup_ne (by omega)).trans (b12 b hb)
  have a13_1 : (hup g12 (sz + 2) (.inl (0, 60, .inl (fun _ => 0)))) (sz + 1) = some (.inl (0, 6, .inl (fun _ => 0))) := (hup_ne (by omega)).trans a12_1
  have a13_2 : (hup g12 (sz + 2) (.inl (0, 60, .inl (fun _ => 0)))) (sz + 2) = some (.inl (0, 60, .inl (fun _ => 0))) := hup_eq
  obtain ⟨g14, e14, o14, x14⟩ := put_step (k := 11) (v := .ref (sz + 2)) (fs' := [.int 2, .int 0, .null, .int (-1), .int (-1), .int (-1), .int (-1), .int 0, .int (-1), .int 0, .ref (sz + 1), .ref (sz + 2)]) o13 (Nat.le_of_ble_eq_true rfl) rfl
  have b14 : ∀ b, b < sz → g14 b = g b := fun b hb => (x14 b (by omega)).trans (b13 b hb)
  have a14_1 : g14 (sz + 1) = some (.inl (0, 6, .inl (fun _ => 0))) := (x14 _ (by omega)).trans a13_1
  have a14_2 : g14 (sz + 2) = some (.inl (0, 60, .inl (fun _ => 0))) := (x14 _ (by omega)).trans a13_2
  refine ⟨g14, ?_, b14, o14, a14_1, a14_2⟩
  unfold fX3_init
  refine ob_of e1 ?_
  refine ob_of e2 ?_
  refine ob_of e3 ?_
  refine ob_of e4 ?_
  refine ob_of e5 ?_
  refine ob_of e6 ?_
  refine ob_of e7 ?_
  refine ob_of e8 ?_
  refine ob_of e9 ?_
  refine ob_of e10 ?_
  refine bmp_of (m1 := 1) (s1 := 60) ?_ rfl rfl
  refine ob_of e12 ?_
  refine bmp_of (m1 := 0) (s1 := 0) ?_ rfl rfl
  refine ob_of e14 ?_
  rfl
set_option maxHeartbeats 4000000 in
set_option maxRecDepth 100000 in
theorem cxX0 (sz : Nat) (g : PH) : ∃ g', (fX0_init (sz + 1) (hup g sz (.inr (0, dfX0))) sz = some ((), g', 1, 20)) ∧ (∀ b, b < sz → g' b = g b) ∧ g' sz = some (.inr (0, [.int 0, .int 0, .ref (sz + 1)])) ∧ g' (sz + 1) = some (.inl (6, 20, .inr (.inr (.inr (.inr (fun _ => none)))))) := by
  have o0 : hup g sz (.inr (0, dfX0)) sz = some (.inr (0, [.int 0, .int 0, .null])) := hup_eq
  have b0 : ∀ b, b < sz → hup g sz (.inr (0, dfX0)) b = g b := fun b hb => hup_ne (by omega)
  obtain ⟨g1, e1, o1, x1⟩ := put_step (k := 0) (v := .int 0) (fs' := [.int 0, .int 0, .null]) o0 (Nat.le_of_ble_eq_true rfl) rfl
  have b1 : ∀ b, b < sz → g1 b = g b := fun b hb => (x1 b (by omega)).trans (b0 b hb)
  obtain ⟨g2, e2, o2, x2⟩ := put_step (k := 1) (v := .int 0) (fs' := [.int 0, .int 0, .null]) o1 (Nat.le_of_ble_eq_true rfl) rfl
  have b2 : ∀ b, b < sz → g2 b = g b := fun b hb => (x2 b (by omega)).trans (b1 b hb)
  have o3 : (hup g2 (sz + 1) (.inl (6, 20, .inr (.inr (.inr (.inr (fun _ => none))))))) sz = some (.inr (0, [.int 0, .int 0, .null])) := (hup_ne (by omega)).trans o2
  have b3 : ∀ b, b < sz → (hup g2 (sz + 1) (.inl (6, 20, .inr (.inr (.inr (.inr (fun _ => none))))))) b = g b := fun b hb => (hup_ne (by omega)).trans (b2 b hb)
  have a3_1 : (hup g2 (sz + 1) (.inl (6, 20, .inr (.inr (.inr (.inr (fun _ => none))))))) (sz + 1) = some (.inl (6, 20, .inr (.inr (.inr (.inr (fun _ => none)))))) := hup_eq
  obtain ⟨g4, e4, o4, x4⟩ := put_step (k := 2) (v := .ref (sz + 1)) (fs' := [.int 0, .int 0, .ref (sz + 1)]) o3 (Nat.le_of_ble_eq_true rfl) rfl
  have b4 : ∀ b, b < sz → g4 b = g b := fun b hb => (x4 b (by omega)).trans (b3 b hb)
  have a4_1 : g4 (sz + 1) = some (.inl (6, 20, .inr (.inr (.inr (.inr (fun _ => none)))))) := (x4 _ (by omega)).trans a3_1
  refine ⟨g4, ?_, b4, o4, a4_1⟩
  unfold fX0_init
  refine ob_of e1 ?_
  refine ob_of e2 ?_
  refine bmp_of (m1 := 0) (s1 := 0) ?_ rfl rfl
  refine ob_of e4 ?_
  rfl
set_option maxHeartbeats 4000000 in
set_option maxRecDepth 100000 in
theorem cxX7 (sz : Nat) (g : PH) : ∃ g', (fX7_init (sz + 1) (hup g sz (.inr (7, dfX7))) sz = some ((), g', 1, 60)) ∧ (∀ b, b < sz → g' b = g b) ∧ g' sz = some (.inr (7, [.int 0, .int 1, .int 0, .int 2, .int 0, .ref (sz + 1)])) ∧ g' (sz + 1) = some (.inl (0, 60, .inl (fun _ => 0))) := by
  have o0 : hup g sz (.inr (7, dfX7)) sz = some (.inr (7, [.int 0, .int 0, .int 0, .int 0, .int 0, .null])) := hup_eq
  have b0 : ∀ b, b < sz → hup g sz (.inr (7, dfX7)) b = g b := fun b hb => hup_ne (by omega)
  obtain ⟨g1, e1, o1, x1⟩ := put_step (k := 0) (v := .int 0) (fs' := [.int 0, .int 0, .int 0, .int 0, .int 0, .null]) o0 (Nat.le_of_ble_eq_true rfl) rfl
  have b1 : ∀ b, b < sz → g1 b = g b := fun b hb => (x1 b (by omega)).trans (b0 b hb)
  obtain ⟨g2, e2, o2, x2⟩ := put_step (k := 1) (v := .int 1) (fs' := [.int 0, .int 1, .int 0, .int 0, .int 0, .null]) o1 (Nat.le_of_ble_eq_true rfl) rfl
  have b2 : ∀ b, b < sz → g2 b = g b := fun b hb => (x2 b (by omega)).trans (b1 b hb)
  obtain ⟨g3, e3, o3, x3⟩ := put_step (k := 2) (v := .int 0) (fs' := [.int 0, .int 1, .int 0, .int 0, .int 0, .null]) o2 (Nat.le_of_ble_eq_true rfl) rfl
  have b3 : ∀ b, b < sz → g3 b = g b := fun b hb => (x3 b (by omega)).trans (b2 b hb)
  obtain ⟨g4, e4, o4, x4⟩ := put_step (k := 3) (v := .int 2) (fs' := [.int 0, .int 1, .int 0, .int 2, .int 0, .null]) o3 (Nat.le_of_ble_eq_true rfl) rfl
  have b4 : ∀ b, b < sz → g4 b = g b := fun b hb => (x4 b (by omega)).trans (b3 b hb)
  obtain ⟨g5, e5, o5, x5⟩ := put_step (k := 4) (v := .int 0) (fs' := [.int 0, .int 1, .int 0, .int 2, .int 0, .null]) o4 (Nat.le_of_ble_eq_true rfl) rfl
  have b5 : ∀ b, b < sz → g5 b = g b := fun b hb => (x5 b (by omega)).trans (b4 b hb)
  have o6 : (hup g5 (sz + 1) (.inl (0, 60, .inl (fun _ => 0)))) sz = some (.inr (7, [.int 0, .int 1, .int 0, .int 2, .int 0, .null])) := (hup_ne (by omega)).trans o5
  have b6 : ∀ b, b < sz → (hup g5 (sz + 1) (.inl (0, 60, .inl (fun _ => 0)))) b = g b := fun b hb => (hup_ne (by omega)).trans (b5 b hb)
  have a6_1 : (hup g5 (sz + 1) (.inl (0, 60, .inl (fun _ => 0)))) (sz + 1) = some (.inl (0, 60, .inl (fun _ => 0))) := hup_eq
  obtain ⟨g7, e7, o7, x7⟩ := put_step (k := 5) (v := .ref (sz + 1)) (fs' := [.int 0, .int 1, .int 0, .int 2, .int 0, .ref (sz + 1)]) o6 (Nat.le_of_ble_eq_true rfl) rfl
  have b7 : ∀ b, b < sz → g7 b = g b := fun b hb => (x7 b (by omega)).trans (b6 b hb)
  have a7_1 : g7 (sz + 1) = some (.inl (0, 60, .inl (fun _ => 0))) := (x7 _ (by omega)).trans a6_1
  refine ⟨g7, ?_, b7, o7, a7_1⟩
  unfold fX7_init
  refine ob_of e1 ?_
  refine ob_of e2 ?_
  refine ob_of e3 ?_
  refine ob_of e4 ?_
  refine ob_of e5 ?_
  refine bmp_of (m1 := 0) (s1 := 0) ?_ rfl rfl
  refine ob_of e7 ?_
  rfl
set_option maxHeartbeats 4000000 in
set_option maxRecDepth 100000 in
theorem cxX8 (sz : Nat) (g : PH) : ∃ g', (∀ q : Unit × PH, fX3_begin g' (sz + 5) 4 = some q → fX8_init (sz + 1) (hup g sz (.inr (8, dfX8))) sz = some ((), q.2, 12, 433)) ∧ (∀ b, b < sz → g' b = g b) ∧ g' sz = some (.inr (8, [.ref (sz + 1), .ref (sz + 3), .int 0, .ref (sz + 4), .int 0, .ref (sz + 5), .ref (sz + 8), .ref (sz + 10), .ref (sz + 12), .null, .null, .int 0])) ∧ g' (sz + 1) = some (.inr (6, [.ref (sz + 2), .int 0, .int 0, .int 0])) ∧ g' (sz + 2) = some (.inl (1, 200, .inl (fun _ => 0))) ∧ g' (sz + 3) = some (.inl (4, 8, .inr (.inr (.inr (.inr (fun _ => none)))))) ∧ g' (sz + 4) = some (.inl (5, 6, .inr (.inr (.inr (.inr (fun _ => none)))))) ∧ g' (sz + 5) = some (.inr (3, [.int 2, .int 0, .null, .int (-1), .int (-1), .int (-1), .int (-1), .int 0, .int (-1), .int 0, .ref (sz + 6), .ref (sz + 7)])) ∧ g' (sz + 6) = some (.inl (0, 6, .inl (fun _ => 0))) ∧ g' (sz + 7) = some (.inl (0, 60, .inl (fun _ => 0))) ∧ g' (sz + 8) = some (.inr (0, [.int 0, .int 0, .ref (sz + 9)])) ∧ g' (sz + 9) = some (.inl (6, 20, .inr (.inr (.inr (.inr (fun _ => none)))))) ∧ g' (sz + 10) = some (.inr (7, [.int 0, .int 1, .int 0, .int 2, .int 0, .ref (sz + 11)])) ∧ g' (sz + 11) = some (.inl (0, 60, .inl (fun _ => 0))) ∧ g' (sz + 12) = some (.inl (0, 48, .inl (fun _ => 0))) := by
  have o0 : hup g sz (.inr (8, dfX8)) sz = some (.inr (8, [.null, .null, .int 0, .null, .int 0, .null, .null, .null, .null, .null, .null, .int 0])) := hup_eq
  have b0 : ∀ b, b < sz → hup g sz (.inr (8, dfX8)) b = g b := fun b hb => hup_ne (by omega)
  obtain ⟨g1, e1, x1, y1_0, y1_1⟩ := cxX6 (sz + 1) (hup g sz (.inr (8, dfX8)))
  have o1 : g1 sz = some (.inr (8, [.null, .null, .int 0, .null, .int 0, .null, .null, .null, .null, .null, .null, .int 0])) := (x1 _ (by omega)).trans o0
  have b1 : ∀ b, b < sz → g1 b = g b := fun b hb => (x1 b (by omega)).trans (b0 b hb)
  have a1_1 : g1 (sz + 1) = some (.inr (6, [.ref (sz + 2), .int 0, .int 0, .int 0])) := y1_0
  have a1_2 : g1 (sz + 2) = some (.inl (1, 200, .inl (fun _ => 0))) := y1_1
  obtain ⟨g2, e2, o2, x2⟩ := put_step (k := 0) (v := .ref (sz + 1)) (fs' := [.ref (sz + 1), .null, .int 0, .null, .int 0, .null, .null, .null, .null, .null, .null, .int 0]) o1 (Nat.le_of_ble_eq_true rfl) rfl
  have b2 : ∀ b, b < sz → g2 b = g b := fun b hb => (x2 b (by omega)).trans (b1 b hb)
  have a2_1 : g2 (sz + 1) = some (.inr (6, [.ref (sz + 2), .int 0, .int 0, .int 0])) := (x2 _ (by omega)).trans a1_1
  have a2_2 : g2 (sz + 2) = some (.inl (1, 200, .inl (fun _ => 0))) := (x2 _ (by omega)).trans a1_2
  have o3 : (hup g2 (sz + 3) (.inl (4, 8, .inr (.inr (.inr (.inr (fun _ => none))))))) sz = some (.inr (8, [.ref (sz + 1), .null, .int 0, .null, .int 0, .null, .null, .null, .null, .null, .null, .int 0])) := (hup_ne (by omega)).trans o2
  have b3 : ∀ b, b < sz → (hup g2 (sz + 3) (.inl (4, 8, .inr (.inr (.inr (.inr (fun _ => none))))))) b = g b := fun b hb => (hup_ne (by omega)).trans (b2 b hb)
  have a3_1 : (hup g2 (sz + 3) (.inl (4, 8, .inr (.inr (.inr (.inr (fun _ => none))))))) (sz + 1) = some (.inr (6, [.ref (sz + 2), .int 0, .int 0, .int 0])) := (hup_ne (by omega)).trans a2_1
  have a3_2 : (hup g2 (sz + 3) (.inl (4, 8, .inr (.inr (.inr (.inr (fun _ => none))))))) (sz + 2) = some (.inl (1, 200, .inl (fun _ => 0))) := (hup_ne (by omega)).trans a2_2
  have a3_3 : (hup g2 (sz + 3) (.inl (4, 8, .inr (.inr (.inr (.inr (fun _ => none))))))) (sz + 3) = some (.inl (4, 8, .inr (.inr (.inr (.inr (fun _ => none)))))) := hup_eq
  obtain ⟨g4, e4, o4, x4⟩ := put_step (k := 1) (v := .ref (sz + 3)) (fs' := [.ref (sz + 1), .ref (sz + 3), .int 0, .null, .int 0, .null, .null, .null, .null, .null, .null, .int 0]) o3 (Nat.le_of_ble_eq_true rfl) rfl
  have b4 : ∀ b, b < sz → g4 b = g b := fun b hb => (x4 b (by omega)).trans (b3 b hb)
  have a4_1 : g4 (sz + 1) = some (.inr (6, [.ref (sz + 2), .int 0, .int 0, .int 0])) := (x4 _ (by omega)).trans a3_1
  have a4_2 : g4 (sz + 2) = some (.inl (1, 200, .inl (fun _ => 0))) := (x4 _ (by omega)).trans a3_2
  have a4_3 : g4 (sz + 3) = some (.inl (4, 8, .inr (.inr (.inr (.inr (fun _ => none)))))) := (x4 _ (by omega)).trans a3_3
  obtain ⟨g5, e5, o5, x5⟩ := put_step (k := 2) (v := .int 0) (fs' := [.ref (sz + 1), .ref (sz + 3), .int 0, .null, .int 0, .null, .null, .null, .null, .null, .null, .int 0]) o4 (Nat.le_of_ble_eq_true rfl) rfl
  have b5 : ∀ b, b < sz → g5 b = g b := fun b hb => (x5 b (by omega)).trans (b4 b hb)
  have a5_1 : g5 (sz + 1) = some (.inr (6, [.ref (sz + 2), .int 0, .int 0, .int 0])) := (x5 _ (by omega)).trans a4_1
  have a5_2 : g5 (sz + 2) = some (.inl (1, 200, .inl (fun _ => 0))) := (x5 _ (by omega)).trans a4_2
  have a5_3 : g5 (sz + 3) = some (.inl (4, 8, .inr (.inr (.inr (.inr (fun _ => none)))))) := (x5 _ (by omega)).trans a4_3
  have o6 : (hup g5 (sz + 4) (.inl (5, 6, .inr (.inr (.inr (.inr (fun _ => none))))))) sz = some (.inr (8, [.ref (sz + 1), .ref (sz + 3), .int 0, .null, .int 0, .null, .null, .null, .null, .null, .null, .int 0])) := (hup_ne (by omega)).trans o5
  have b6 : ∀ b, b < sz → (hup g5 (sz + 4) (.inl (5, 6, .inr (.inr (.inr (.inr (fun _ => none))))))) b = g b := fun b hb => (hup_ne (by omega)).trans (b5 b hb)
  have a6_1 : (hup g5 (sz + 4) (.inl (5, 6, .inr (.inr (.inr (.inr (fun _ => none))))))) (sz + 1) = some (.inr (6, [.ref (sz + 2), .int 0, .int 0, .int 0])) := (hup_ne (by omega)).trans a5_1
  have a6_2 : (hup g5 (sz + 4) (.inl (5, 6, .inr (.inr (.inr (.inr (fun _ => none))))))) (sz + 2) = some (.inl (1, 200, .inl (fun _ => 0))) := (hup_ne (by omega)).trans a5_2
  have a6_3 : (hup g5 (sz + 4) (.inl (5, 6, .inr (.inr (.inr (.inr (fun _ => none))))))) (sz + 3) = some (.inl (4, 8, .inr (.inr (.inr (.inr (fun _ => none)))))) := (hup_ne (by omega)).trans a5_3
  have a6_4 : (hup g5 (sz + 4) (.inl (5, 6, .inr (.inr (.inr (.inr (fun _ => none))))))) (sz + 4) = some (.inl (5, 6, .inr (.inr (.inr (.inr (fun _ => none)))))) := hup_eq
  obtain ⟨g7, e7, o7, x7⟩ := put_step (k := 3) (v := .ref (sz + 4)) (fs' := [.ref (sz + 1), .ref (sz + 3), .int 0, .ref (sz + 4), .int 0, .null, .null, .null, .null, .null, .null, .int 0]) o6 (Nat.le_of_ble_eq_true rfl) rfl
  have b7 : ∀ b, b < sz → g7 b = g b := fun b hb => (x7 b (by omega)).trans (b6 b hb)
  have a7_1 : g7 (sz + 1) = some (.inr (6, [.ref (sz + 2), .int 0, .int 0, .int 0])) := (x7 _ (by omega)).trans a6_1
  have a7_2 : g7 (sz + 2) = some (.inl (1, 200, .inl (fun _ => 0))) := (x7 _ (by omega)).trans a6_2
  have a7_3 : g7 (sz + 3) = some (.inl (4, 8, .inr (.inr (.inr (.inr (fun _ => none)))))) := (x7 _ (by omega)).trans a6_3
  have a7_4 : g7 (sz + 4) = some (.inl (5, 6, .inr (.inr (.inr (.inr (fun _ => none)))))) := (x7 _ (by omega)).trans a6_4
  obtain ⟨g8, e8, o8, x8⟩ := put_step (k := 4) (v := .int 0) (fs' := [.ref (sz + 1), .ref (sz + 3), .int 0, .ref (sz + 4), .int 0, .null, .null, .null, .null, .null, .null, .int 0]) o7 (Nat.le_of_ble_eq_true rfl) rfl
  have b8 : ∀ b, b < sz → g8 b = g b := fun b hb => (x8 b (by omega)).trans (b7 b hb)
  have a8_1 : g8 (sz + 1) = some (.inr (6, [.ref (sz + 2), .int 0, .int 0, .int 0])) := (x8 _ (by omega)).trans a7_1
  have a8_2 : g8 (sz + 2) = some (.inl (1, 200, .inl (fun _ => 0))) := (x8 _ (by omega)).trans a7_2
  have a8_3 : g8 (sz + 3) = some (.inl (4, 8, .inr (.inr (.inr (.inr (fun _ => none)))))) := (x8 _ (by omega)).trans a7_3
  have a8_4 : g8 (sz + 4) = some (.inl (5, 6, .inr (.inr (.inr (.inr (fun _ => none)))))) := (x8 _ (by omega)).trans a7_4
  obtain ⟨g9, e9, x9, y9_0, y9_1, y9_2⟩ := cxX3 (sz + 5) g8
  have o9 : g9 sz = some (.inr (8, [.ref (sz + 1), .ref (sz + 3), .int 0, .ref (sz + 4), .int 0, .null, .null, .null, .null, .null, .null, .int 0])) := (x9 _ (by omega)).trans o8
  have b9 : ∀ b, b < sz → g9 b = g b := fun b hb => (x9 b (by omega)).trans (b8 b hb)
  have a9_1 : g9 (sz + 1) = some (.inr (6, [.ref (sz + 2), .int 0, .int 0, .int 0])) := (x9 _ (by omega)).trans a8_1
  have a9_2 : g9 (sz + 2) = some (.inl (1, 200, .inl (fun _ => 0))) := (x9 _ (by omega)).trans a8_2
  have a9_3 : g9 (sz + 3) = some (.inl (4, 8, .inr (.inr (.inr (.inr (fun _ => none)))))) := (x9 _ (by omega)).trans a8_3
  have a9_4 : g9 (sz + 4) = some (.inl (5, 6, .inr (.inr (.inr (.inr (fun _ => none)))))) := (x9 _ (by omega)).trans a8_4
  have a9_5 : g9 (sz + 5) = some (.inr (3, [.int 2, .int 0, .null, .int (-1), .int (-1), .int (-1), .int (-1), .int 0, .int (-1), .int 0, .ref (sz + 6), .ref (sz + 7)])) := y9_0
  have a9_6 : g9 (sz + 6) = some (.inl (0, 6, .inl (fun _ => 0))) := y9_1
  have a9_7 : g9 (sz + 7) = some (.inl (0, 60, .inl (fun _ => 0))) := y9_2
  obtain ⟨g10, e10, o10, x10⟩ := put_step (k := 5) (v := .ref (sz + 5)) (fs' := [.ref (sz + 1), .ref (sz + 3), .int 0, .ref (sz + 4), .int 0, .ref (sz + 5), .null, .null, .null, .null, .null, .int 0]) o9 (Nat.le_of_ble_eq_true rfl) rfl
  have b10 : ∀ b, b < sz → g10 b = g b := fun b hb => (x10 b (by omega)).trans (b9 b hb)
  have a10_1 : g10 (sz + 1) = some (.inr (6, [.ref (sz + 2), .int 0, .int 0, .int 0])) := (x10 _ (by omega)).trans a9_1
  have a10_2 : g10 (sz + 2) = some (.inl (1, 200, .inl (fun _ => 0))) := (x10 _ (by omega)).trans a9_2
  have a10_3 : g10 (sz + 3) = some (.inl (4, 8, .inr (.inr (.inr (.inr (fun _ => none)))))) := (x10 _ (by omega)).trans a9_3
  have a10_4 : g10 (sz + 4) = some (.inl (5, 6, .inr (.inr (.inr (.inr (fun _ => none)))))) := (x10 _ (by omega)).trans a9_4
  have a10_5 : g10 (sz + 5) = some (.inr (3, [.int 2, .int 0, .null, .int (-1), .int (-1), .int (-1), .int (-1), .int 0, .int (-1), .int 0, .ref (sz + 6), .ref (sz + 7)])) := (x10 _ (by omega)).trans a9_5
  have a10_6 : g10 (sz + 6) = some (.inl (0, 6, .inl (fun _ => 0))) := (x10 _ (by omega)).trans a9_6
  have a10_7 : g10 (sz + 7) = some (.inl (0, 60, .inl (fun _ => 0))) := (x10 _ (by omega)).trans a9_7
  obtain ⟨g11, e11, x11, y11_0, y11_1⟩ := cxX0 (sz + 8) g10
  have o11 : g11 sz = some (.inr (8, [.ref (sz + 1), .ref (sz + 3), .int 0, .ref (sz + 4), .int 0, .ref (sz + 5), .null, .null, .null, .null, .null, .int 0])) := (x11 _ (by omega)).trans o10
  have b11 : ∀ b, b < sz → g11 b = g b := fun b hb => (x11 b (by omega)).trans (b10 b hb)
  have a11_1 : g11 (sz + 1) = some (.inr (6, [.ref (sz + 2), .int 0, .int 0, .int 0])) := (x11 _ (by omega)).trans a10_1
  have a11_2 : g11 (sz + 2) = some (.inl (1, 200, .inl (fun _ => 0))) := (x11 _ (by omega)).trans a10_2
  have a11_3 : g11 (sz + 3) = some (.inl (4, 8, .inr (.inr (.inr (.inr (fun _ => none)))))) := (x11 _ (by omega)).trans a10_3
  have a11_4 : g11 (sz + 4) = some (.inl (5, 6, .inr (.inr (.inr (.inr (fun _ => none)))))) := (x11 _ (by omega)).trans a10_4
  have a11_5 : g11 (sz + 5) = some (.inr (3, [.int 2, .int 0, .null, .int (-1), .int (-1), .int (-1), .int (-1), .int 0, .int (-1), .int 0, .ref (sz + 6), .ref (sz + 7)])) := (x11 _ (by omega)).trans a10_5
  have a11_6 : g11 (sz + 6) = some (.inl (0, 6, .inl (fun _ => 0))) := (x11 _ (by omega)).trans a10_6
  have a11_7 : g11 (sz + 7) = some (.inl (0, 60, .inl (fun _ => 0))) := (x11 _ (by omega)).trans a10_7
  have a11_8 : g11 (sz + 8) = some (.inr (0, [.int 0, .int 0, .ref (sz + 9)])) := y11_0
  have a11_9 : g11 (sz + 9) = some (.inl (6, 20, .inr (.inr (.inr (.inr (fun _ => none)))))) := y11_1
  obtain ⟨g12, e12, o12, x12⟩ := put_step (k := 6) (v := .ref (sz + 8)) (fs' := [.ref (sz + 1), .ref (sz + 3), .int 0, .ref (sz + 4), .int 0, .ref (sz + 5), .ref (sz + 8), .null, .null, .null, .null, .int 0]) o11 (Nat.le_of_ble_eq_true rfl) rfl
  have b12 : ∀ b, b < sz → g12 b = g b := fun b hb => (x12 b (by omega)).trans (b11 b hb)
  have a12_1 : g12 (sz + 1) = some (.inr (6, [.ref (sz + 2), .int 0, .int 0, .int 0])) := (x12 _ (by omega)).trans a11_1
  have a12_2 : g12 (sz + 2) = some (.inl (1, 200, .inl (fun _ => 0))) := (x12 _ (by omega)).trans a11_2
  have a12_3 : g12 (sz + 3) = some (.inl (4, 8, .inr (.inr (.inr (.inr (fun _ => none)))))) := (x12 _ (by omega)).trans a11_3
  have a12_4 : g12 (sz + 4) = some (.inl (5, 6, .inr (.inr (.inr (.inr (fun _ => none)))))) := (x12 _ (by omega)).trans a11_4
  have a12_5 : g12 (sz + 5) = some (.inr (3, [.int 2, .int 0, .null, .int (-1), .int (-1), .int (-1), .int (-1), .int 0, .int (-1), .int 0, .ref (sz + 6), .ref (sz + 7)])) := (x12 _ (by omega)).trans a11_5
  have a12_6 : g12 (sz + 6) = some (.inl (0, 6, .inl (fun _ => 0))) := (x12 _ (by omega)).trans a11_6
  have a12_7 : g12 (sz + 7) = some (.inl (0, 60, .inl (fun _ => 0))) := (x12 _ (by omega)).trans a11_7
  have a12_8 : g12 (sz + 8) = some (.inr (0, [.int 0, .int 0, .ref (sz + 9)])) := (x12 _ (by omega)).trans a11_8
  have a12_9 : g12 (sz + 9) = some (.inl (6, 20, .inr (.inr (.inr (.inr (fun _ => none)))))) := (x12 _ (by omega)).trans a11_9
  obtain ⟨g13, e13, x13, y13_0, y13_1⟩ := cxX7 (sz + 10) g12
  have o13 : g13 sz = some (.inr (8, [.ref (sz + 1), .ref (sz + 3), .int 0, .ref (sz + 4), .int 0, .ref (sz + 5), .ref (sz + 8), .null, .null, .null, .null, .int 0])) := (x13 _ (by omega)).trans o12
  have b13 : ∀ b, b < sz → g13 b = g b := fun b hb => (x13 b (by omega)).trans (b12 b hb)
  have a13_1 : g13 (sz + 1) = some (.inr (6, [.ref (sz + 2), .int 0, .int 0, .int 0])) := (x13 _ (by omega)).trans a12_1
  have a13_2 : g13 (sz + 2) = some (.inl (1, 200, .inl (fun _ => 0))) := (x13 _ (by omega)).trans a12_2
  have a13_3 : g13 (sz + 3) = some (.inl (4, 8, .inr (.inr (.inr (.inr (fun _ => none)))))) := (x13 _ (by omega)).trans a12_3
  have a13_4 : g13 (sz + 4) = some (.inl (5, 6, .inr (.inr (.inr (.inr (fun _ => none)))))) := (x13 _ (by omega)).trans a12_4
  have a13_5 : g13 (sz + 5) = some (.inr (3, [.int 2, .int 0, .null, .int (-1), .int (-1), .int (-1), .int (-1), .int 0, .int (-1), .int 0, .ref (sz + 6), .ref (sz + 7)])) := (x13 _ (by omega)).trans a12_5
  have a13_6 : g13 (sz + 6) = some (.inl (0, 6, .inl (fun _ => 0))) := (x13 _ (by omega)).trans a12_6
  have a13_7 : g13 (sz + 7) = some (.inl (0, 60, .inl (fun _ => 0))) := (x13 _ (by omega)).trans a12_7
  have a13_8 : g13 (sz + 8) = some (.inr (0, [.int 0, .int 0, .ref (sz + 9)])) := (x13 _ (by omega)).trans a12_8
  have a13_9 : g13 (sz + 9) = some (.inl (6, 20, .inr (.inr (.inr (.inr (fun _ => none)))))) := (x13 _ (by omega)).trans a12_9
  have a13_10 : g13 (sz + 10) = some (.inr (7, [.int 0, .int 1, .int 0, .int 2, .int 0, .ref (sz + 11)])) := y13_0
  have a13_11 : g13 (sz + 11) = some (.inl (0, 60, .inl (fun _ => 0))) := y13_1
  obtain ⟨g14, e14, o14, x14⟩ := put_step (k := 7) (v := .ref (sz + 10)) (fs' := [.ref (sz + 1), .ref (sz + 3), .int 0, .ref (sz + 4), .int 0, .ref (sz + 5), .ref (sz + 8), .ref (sz + 10), .null, .null, .null, .int 0]) o13 (Nat.le_of_ble_eq_true rfl) rfl
  have b14 : ∀ b, b < sz → g14 b = g b := fun b hb => (x14 b (by omega)).trans (b13 b hb)
  have a14_1 : g14 (sz + 1) = some (.inr (6, [.ref (sz + 2), .int 0, .int 0, .int 0])) := (x14 _ (by omega)).trans a13_1
  have a14_2 : g14 (sz + 2) = some (.inl (1, 200, .inl (fun _ => 0))) := (x14 _ (by omega)).trans a13_2
  have a14_3 : g14 (sz + 3) = some (.inl (4, 8, .inr (.inr (.inr (.inr (fun _ => none)))))) := (x14 _ (by omega)).trans a13_3
  have a14_4 : g14 (sz + 4) = some (.inl (5, 6, .inr (.inr (.inr (.inr (fun _ => none)))))) := (x14 _ (by omega)).trans a13_4
  have a14_5 : g14 (sz + 5) = some (.inr (3, [.int 2, .int 0, .null, .int (-1), .int (-1), .int (-1), .int (-1), .int 0, .int (-1), .int 0, .ref (sz + 6), .ref (sz + 7)])) := (x14 _ (by omega)).trans a13_5
  have a14_6 : g14 (sz + 6) = some (.inl (0, 6, .inl (fun _ => 0))) := (x14 _ (by omega)).trans a13_6
  have a14_7 : g14 (sz + 7) = some (.inl (0, 60, .inl (fun _ => 0))) := (x14 _ (by omega)).trans a13_7
  have a14_8 : g14 (sz + 8) = some (.inr (0, [.int 0, .int 0, .ref (sz + 9)])) := (x14 _ (by omega)).trans a13_8
  have a14_9 : g14 (sz + 9) = some (.inl (6, 20, .inr (.inr (.inr (.inr (fun _ => none)))))) := (x14 _ (by omega)).trans a13_9
  have a14_10 : g14 (sz + 10) = some (.inr (7, [.int 0, .int 1, .int 0, .int 2, .int 0, .ref (sz + 11)])) := (x14 _ (by omega)).trans a13_10
  have a14_11 : g14 (sz + 11) = some (.inl (0, 60, .inl (fun _ => 0))) := (x14 _ (by omega)).trans a13_11
  have o15 : (hup g14 (sz + 12) (.inl (0, 48, .inl (fun _ => 0)))) sz = some (.inr (8, [.ref (sz + 1), .ref (sz + 3), .int 0, .ref (sz + 4), .int 0, .ref (sz + 5), .ref (sz + 8), .ref (sz + 10), .null, .null, .null, .int 0])) := (hup_ne (by omega)).trans o14
  have b15 : ∀ b, b < sz → (hup g14 (sz + 12) (.inl (0, 48, .inl (fun _ => 0)))) b = g b := fun b hb => (hup_ne (by omega)).trans (b14 b hb)
  have a15_1 : (hup g14 (sz + 12) (.inl (0, 48, .inl (fun _ => 0)))) (sz + 1) = some (.inr (6, [.ref (sz + 2), .int 0, .int 0, .int 0])) := (hup_ne (by omega)).trans a14_1
  have a15_2 : (hup g14 (sz + 12) (.inl (0, 48, .inl (fun _ => 0)))) (sz + 2) = some (.inl (1, 200, .inl (fun _ => 0))) := (hup_ne (by omega)).trans a14_2
  have a15_3 : (hup g14 (sz + 12) (.inl (0, 48, .inl (fun _ => 0)))) (sz + 3) = some (.inl (4, 8, .inr (.inr (.inr (.inr (fun _ => none)))))) := (hup_ne (by omega)).trans a14_3
  have a15_4 : (hup g14 (sz + 12) (.inl (0, 48, .inl (fun _ => 0)))) (sz + 4) = some (.inl (5, 6, .inr (.inr (.inr (.inr (fun _ => none)))))) := (hup_ne (by omega)).trans a14_4
  have a15_5 : (hup g14 (sz + 12) (.inl (0, 48, .inl (fun _ => 0)))) (sz + 5) = some (.inr (3, [.int 2, .int 0, .null, .int (-1), .int (-1), .int (-1), .int (-1), .int 0, .int (-1), .int 0, .ref (sz + 6), .ref (sz + 7)])) := (hup_ne (by omega)).trans a14_5
  have a15_6 : (hup g14 (sz + 12) (.inl (0, 48, .inl (fun _ => 0)))) (sz + 6) = some (.inl (0, 6, .inl (fun _ => 0))) := (hup_ne (by omega)).trans a14_6
  have a15_7 : (hup g14 (sz + 12) (.inl (0, 48, .inl (fun _ => 0)))) (sz + 7) = some (.inl (0, 60, .inl (fun _ => 0))) := (hup_ne (by omega)).trans a14_7
  have a15_8 : (hup g14 (sz + 12) (.inl (0, 48, .inl (fun _ => 0)))) (sz + 8) = some (.inr (0, [.int 0, .int 0, .ref (sz + 9)])) := (hup_ne (by omega)).trans a14_8
  have a15_9 : (hup g14 (sz + 12) (.inl (0, 48, .inl (fun _ => 0)))) (sz + 9) = some (.inl (6, 20, .inr (.inr (.inr (.inr (fun _ => none)))))) := (hup_ne (by omega)).trans a14_9
  have a15_10 : (hup g14 (sz + 12) (.inl (0, 48, .inl (fun _ => 0)))) (sz + 10) = some (.inr (7, [.int 0, .int 1, .int 0, .int 2, .int 0, .ref (sz + 11)])) := (hup_ne (by omega)).trans a14_10
  have a15_11 : (hup g14 (sz + 12) (.inl (0, 48, .inl (fun _ => 0)))) (sz + 11) = some (.inl (0, 60, .inl (fun _ => 0))) := (hup_ne (by omega)).trans a14_11
  have a15_12 : (hup g14 (sz + 12) (.inl (0, 48, .inl (fun _ => 0)))) (sz + 12) = some (.inl (0, 48, .inl (fun _ => 0))) := hup_eq
  obtain ⟨g16, e16, o16, x16⟩ := put_step (k := 8) (v := .ref (sz + 12)) (fs' := [.ref (sz + 1), .ref (sz + 3), .int 0, .ref (sz + 4), .int 0, .ref (sz + 5), .ref (sz + 8), .ref (sz + 10), .ref (sz + 12), .null, .null, .int 0]) o15 (Nat.le_of_ble_eq_true rfl) rfl
  have b16 : ∀ b, b < sz → g16 b = g b := fun b hb => (x16 b (by omega)).trans (b15 b hb)
  have a16_1 : g16 (sz + 1) = some (.inr (6, [.ref (sz + 2), .int 0, .int 0, .int 0])) := (x16 _ (by omega)).trans a15_1
  have a16_2 : g16 (sz + 2) = some (.inl (1, 200, .inl (fun _ => 0))) := (x16 _ (by omega)).trans a15_2
  have a16_3 : g16 (sz + 3) = some (.inl (4, 8, .inr (.inr (.inr (.inr (fun _ => none)))))) := (x16 _ (by omega)).trans a15_3
  have a16_4 : g16 (sz + 4) = some (.inl (5, 6, .inr (.inr (.inr (.inr (fun _ => none)))))) := (x16 _ (by omega)).trans a15_4
  have a16_5 : g16 (sz + 5) = some (.inr (3, [.int 2, .int 0, .null, .int (-1), .int (-1), .int (-1), .int (-1), .int 0, .int (-1), .int 0, .ref (sz + 6), .ref (sz + 7)])) := (x16 _ (by omega)).trans a15_5
  have a16_6 : g16 (sz + 6) = some (.inl (0, 6, .inl (fun _ => 0))) := (x16 _ (by omega)).trans a15_6
  have a16_7 : g16 (sz + 7) = some (.inl (0, 60, .inl (fun _ => 0))) := (x16 _ (by omega)).trans a15_7
  have a16_8 : g16 (sz + 8) = some (.inr (0, [.int 0, .int 0, .ref (sz + 9)])) := (x16 _ (by omega)).trans a15_8
  have a16_9 : g16 (sz + 9) = some (.inl (6, 20, .inr (.inr (.inr (.inr (fun _ => none)))))) := (x16 _ (by omega)).trans a15_9
  have a16_10 : g16 (sz + 10) = some (.inr (7, [.int 0, .int 1, .int 0, .int 2, .int 0, .ref (sz + 11)])) := (x16 _ (by omega)).trans a15_10
  have a16_11 : g16 (sz + 11) = some (.inl (0, 60, .inl (fun _ => 0))) := (x16 _ (by omega)).trans a15_11
  have a16_12 : g16 (sz + 12) = some (.inl (0, 48, .inl (fun _ => 0))) := (x16 _ (by omega)).trans a15_12
  obtain ⟨g17, e17, o17, x17⟩ := put_step (k := 9) (v := .null) (fs' := [.ref (sz + 1), .ref (sz + 3), .int 0, .ref (sz + 4), .int 0, .ref (sz + 5), .ref (sz + 8), .ref (sz + 10), .ref (sz + 12), .null, .null, .int 0]) o16 (Nat.le_of_ble_eq_true rfl) rfl
  have b17 : ∀ b, b < sz → g17 b = g b := fun b hb => (x17 b (by omega)).trans (b16 b hb)
  have a17_1 : g17 (sz + 1) = some (.inr (6, [.ref (sz + 2), .int 0, .int 0, .int 0])) := (x17 _ (by omega)).trans a16_1
  have a17_2 : g17 (sz + 2) = some (.inl (1, 200, .inl (fun _ => 0))) := (x17 _ (by omega)).trans a16_2
  have a17_3 : g17 (sz + 3) = some (.inl (4, 8, .inr (.inr (.inr (.inr (fun _ => none)))))) := (x17 _ (by omega)).trans a16_3
  have a17_4 : g17 (sz + 4) = some (.inl (5, 6, .inr (.inr (.inr (.inr (fun _ => none)))))) := (x17 _ (by omega)).trans a16_4
  have a17_5 : g17 (sz + 5) = some (.inr (3, [.int 2, .int 0, .null, .int (-1), .int (-1), .int (-1), .int (-1), .int 0, .int (-1), .int 0, .ref (sz + 6), .ref (sz + 7)])) := (x17 _ (by omega)).trans a16_5
  have a17_6 : g17 (sz + 6) = some (.inl (0, 6, .inl (fun _ => 0))) := (x17 _ (by omega)).trans a16_6
  have a17_7 : g17 (sz + 7) = some (.inl (0, 60, .inl (fun _ => 0))) := (x17 _ (by omega)).trans a16_7
  have a17_8 : g17 (sz + 8) = some (.inr (0, [.int 0, .int 0, .ref (sz + 9)])) := (x17 _ (by omega)).trans a16_8
  have a17_9 : g17 (sz + 9) = some (.inl (6, 20, .inr (.inr (.inr (.inr (fun _ => none)))))) := (x17 _ (by omega)).trans a16_9
  have a17_10 : g17 (sz + 10) = some (.inr (7, [.int 0, .int 1, .int 0, .int 2, .int 0, .ref (sz + 11)])) := (x17 _ (by omega)).trans a16_10
  have a17_11 : g17 (sz + 11) = some (.inl (0, 60, .inl (fun _ => 0))) := (x17 _ (by omega)).trans a16_11
  have a17_12 : g17 (sz + 12) = some (.inl (0, 48, .inl (fun _ => 0))) := (x17 _ (by omega)).trans a16_12
  obtain ⟨g18, e18, o18, x18⟩ := put_step (k := 10) (v := .null) (fs' := [.ref (sz + 1), .ref (sz + 3), .int 0, .ref (sz + 4), .int 0, .ref (sz + 5), .ref (sz + 8), .ref (sz + 10), .ref (sz + 12), .null, .null, .int 0]) o17 (Nat.le_of_ble_eq_true rfl) rfl
  have b18 : ∀ b, b < sz → g18 b = g b := fun b hb => (x18 b (by omega)).trans (b17 b hb)
  have a18_1 : g18 (sz + 1) = some (.inr (6, [.ref (sz + 2), .int 0, .int 0, .int 0])) := (x18 _ (by omega)).trans a17_1
  have a18_2 : g18 (sz + 2) = some (.inl (1, 200, .inl (fun _ => 0))) := (x18 _ (by omega)).trans a17_2
  have a18_3 : g18 (sz + 3) = some (.inl (4, 8, .inr (.inr (.inr (.inr (fun _ => none)))))) := (x18 _ (by omega)).trans a17_3
  have a18_4 : g18 (sz + 4) = some (.inl (5, 6, .inr (.inr (.inr (.inr (fun _ => none)))))) := (x18 _ (by omega)).trans a17_4
  have a18_5 : g18 (sz + 5) = some (.inr (3, [.int 2, .int 0, .null, .int (-1), .int (-1), .int (-1), .int (-1), .int 0, .int (-1), .int 0, .ref (sz + 6), .ref (sz + 7)])) := (x18 _ (by omega)).trans a17_5
  have a18_6 : g18 (sz + 6) = some (.inl (0, 6, .inl (fun _ => 0))) := (x18 _ (by omega)).trans a17_6
  have a18_7 : g18 (sz + 7) = some (.inl (0, 60, .inl (fun _ => 0))) := (x18 _ (by omega)).trans a17_7
  have a18_8 : g18 (sz + 8) = some (.inr (0, [.int 0, .int 0, .ref (sz + 9)])) := (x18 _ (by omega)).trans a17_8
  have a18_9 : g18 (sz + 9) = some (.inl (6, 20, .inr (.inr (.inr (.inr (fun _ => none)))))) := (x18 _ (by omega)).trans a17_9
  have a18_10 : g18 (sz + 10) = some (.inr (7, [.int 0, .int 1, .int 0, .int 2, .int 0, .ref (sz + 11)])) := (x18 _ (by omega)).trans a17_10
  have a18_11 : g18 (sz + 11) = some (.inl (0, 60, .inl (fun _ => 0))) := (x18 _ (by omega)).trans a17_11
  have a18_12 : g18 (sz + 12) = some (.inl (0, 48, .inl (fun _ => 0))) := (x18 _ (by omega)).trans a17_12
  obtain ⟨g19, e19, o19, x19⟩ := put_step (k := 11) (v := .int 0) (fs' := [.ref (sz + 1), .ref (sz + 3), .int 0, .ref (sz + 4), .int 0, .ref (sz + 5), .ref (sz + 8), .ref (sz + 10), .ref (sz + 12), .null, .null, .int 0]) o18 (Nat.le_of_ble_eq_true rfl) rfl
  have b19 : ∀ b, b < sz → g19 b = g b := fun b hb => (x19 b (by omega)).trans (b18 b hb)
  have a19_1 : g19 (sz + 1) = some (.inr (6, [.ref (sz + 2), .int 0, .int 0, .int 0])) := (x19 _ (by omega)).trans a18_1
  have a19_2 : g19 (sz + 2) = some (.inl (1, 200, .inl (fun _ => 0))) := (x19 _ (by omega)).trans a18_2
  have a19_3 : g19 (sz + 3) = some (.inl (4, 8, .inr (.inr (.inr (.inr (fun _ => none)))))) := (x19 _ (by omega)).trans a18_3
  have a19_4 : g19 (sz + 4) = some (.inl (5, 6, .inr (.inr (.inr (.inr (fun _ => none)))))) := (x19 _ (by omega)).trans a18_4
  have a19_5 : g19 (sz + 5) = some (.inr (3, [.int 2, .int 0, .null, .int (-1), .int (-1), .int (-1), .int (-1), .int 0, .int (-1), .int 0, .ref (sz + 6), .ref (sz + 7)])) := (x19 _ (by omega)).trans a18_5
  have a19_6 : g19 (sz + 6) = some (.inl (0, 6, .inl (fun _ => 0))) := (x19 _ (by omega)).trans a18_6
  have a19_7 : g19 (sz + 7) = some (.inl (0, 60, .inl (fun _ => 0))) := (x19 _ (by omega)).trans a18_7
  have a19_8 : g19 (sz + 8) = some (.inr (0, [.int 0, .int 0, .ref (sz + 9)])) := (x19 _ (by omega)).trans a18_8
  have a19_9 : g19 (sz + 9) = some (.inl (6, 20, .inr (.inr (.inr (.inr (fun _ => none)))))) := (x19 _ (by omega)).trans a18_9
  have a19_10 : g19 (sz + 10) = some (.inr (7, [.int 0, .int 1, .int 0, .int 2, .int 0, .ref (sz + 11)])) := (x19 _ (by omega)).trans a18_10
  have a19_11 : g19 (sz + 11) = some (.inl (0, 60, .inl (fun _ => 0))) := (x19 _ (by omega)).trans a18_11
  have a19_12 : g19 (sz + 12) = some (.inl (0, 48, .inl (fun _ => 0))) := (x19 _ (by omega)).trans a18_12
  refine ⟨g19, ?_, b19, o19, a19_1, a19_2, a19_3, a19_4, a19_5, a19_6, a19_7, a19_8, a19_9, a19_10, a19_11, a19_12⟩
  intro q hq
  unfold fX8_init
  refine bmp_of (m1 := 11) (s1 := 429) ?_ rfl rfl
  refine ob_of e1 ?_
  refine bmp_of (m1 := 10) (s1 := 229) ?_ rfl rfl
  refine ob_of e2 ?_
  refine bmp_of (m1 := 9) (s1 := 221) ?_ rfl rfl
  refine ob_of e4 ?_
  refine ob_of e5 ?_
  refine bmp_of (m1 := 8) (s1 := 215) ?_ rfl rfl
  refine ob_of e7 ?_
  refine ob_of e8 ?_
  refine bmp_of (m1 := 7) (s1 := 203) ?_ rfl rfl
  refine ob_of e9 ?_
  refine bmp_of (m1 := 5) (s1 := 137) ?_ rfl rfl
  refine ob_of e10 ?_
  refine bmp_of (m1 := 4) (s1 := 134) ?_ rfl rfl
  refine ob_of e11 ?_
  refine bmp_of (m1 := 3) (s1 := 114) ?_ rfl rfl
  refine ob_of e12 ?_
  refine bmp_of (m1 := 2) (s1 := 108) ?_ rfl rfl
  refine ob_of e13 ?_
  refine bmp_of (m1 := 1) (s1 := 48) ?_ rfl rfl
  refine ob_of e14 ?_
  refine bmp_of (m1 := 0) (s1 := 0) ?_ rfl rfl
  refine ob_of e16 ?_
  refine ob_of e17 ?_
  refine ob_of e18 ?_
  refine ob_of e19 ?_
  refine ob_of (getR_of o19 rfl) ?_
  refine ob_of hq ?_
  rfl
set_option maxHeartbeats 4000000 in
set_option maxRecDepth 100000 in
theorem cxX9 (sz : Nat) (g : PH) : ∃ g', (∀ q : Unit × PH, fX9_begins g' sz 4 = some q → fX9_init (sz + 1) (hup g sz (.inr (9, dfX9))) sz = some ((), q.2, 22, 42221)) ∧ (∀ b, b < sz → g' b = g b) ∧ g' sz = some (.inr (9, [.ref (sz + 1), .int 0, .int 0, .int 0, .int 0, .ref (sz + 2), .ref (sz + 3), .int 0, .ref (sz + 4), .ref (sz + 5), .ref (sz + 6), .int 0, .ref (sz + 7), .int 0, .int 0, .int 0, .ref (sz + 8), .ref (sz + 9), .ref (sz + 10), .int 0, .int 0, .ref (sz + 11), .int 0, .int 0, .int 0, .ref (sz + 12), .ref (sz + 13), .ref (sz + 14), .ref (sz + 15), .int 0, .int 0, .ref (sz + 16), .ref (sz + 17), .ref (sz + 18), .ref (sz + 19), .ref (sz + 20), .int 0, .ref (sz + 21), .ref (sz + 22), .int 0, .long 0])) ∧ g' (sz + 1) = some (.inl (1, 200, .inl (fun _ => 0))) ∧ g' (sz + 2) = some (.inl (0, 180, .inl (fun _ => 0))) ∧ g' (sz + 3) = some (.inl (0, 9, .inl (fun _ => 0))) ∧ g' (sz + 4) = some (.inl (0, 448, .inl (fun _ => 0))) ∧ g' (sz + 5) = some (.inl (0, 7, .inl (fun _ => 0))) ∧ g' (sz + 6) = some (.inl (0, 7, .inl (fun _ => 0))) ∧ g' (sz + 7) = some (.inl (1, 15, .inl (upd (upd (upd (upd (upd (upd (upd (upd (upd (upd (upd (upd (upd (upd (upd (fun _ => 0) 0 (vp_nar .byte 117)) 1 (vp_nar .byte 112)) 2 (vp_nar .byte 0)) 3 (vp_nar .byte 0)) 4 (vp_nar .byte 0)) 5 (vp_nar .byte 100)) 6 (vp_nar .byte 111)) 7 (vp_nar .byte 119)) 8 (vp_nar .byte 110)) 9 (vp_nar .byte 0)) 10 (vp_nar .byte 97)) 11 (vp_nar .byte 110)) 12 (vp_nar .byte 121)) 13 (vp_nar .byte 0)) 14 (vp_nar .byte 0)))) ∧ g' (sz + 8) = some (.inl (0, 133, .inl (fun _ => 0))) ∧ g' (sz + 9) = some (.inl (0, 133, .inl (fun _ => 0))) ∧ g' (sz + 10) = some (.inl (0, 2660, .inl (fun _ => 0))) ∧ g' (sz + 11) = some (.inl (0, 120, .inl (fun _ => 0))) ∧ g' (sz + 12) = some (.inl (2, 4804, .inr (.inl (fun _ => 0)))) ∧ g' (sz + 13) = some (.inl (0, 1201, .inl (fun _ => 0))) ∧ g' (sz + 14) = some (.inl (0, 1201, .inl (fun _ => 0))) ∧ g' (sz + 15) = some (.inl (0, 1201, .inl (fun _ => 0))) ∧ g' (sz + 16) = some (.inl (0, 64, .inl (fun _ => 0))) ∧ g' (sz + 17) = some (.inl (0, 64, .inl (fun _ => 0))) ∧ g' (sz + 18) = some (.inl (2, 4, .inr (.inl (fun _ => 0)))) ∧ g' (sz + 19) = some (.inl (0, 10, .inl (fun _ => 0))) ∧ g' (sz + 20) = some (.inl (0, 720, .inl (fun _ => 0))) ∧ g' (sz + 21) = some (.inl (0, 240, .inl (fun _ => 0))) ∧ g' (sz + 22) = some (.inl (0, 28800, .inl (fun _ => 0))) := by
  have o0 : hup g sz (.inr (9, dfX9)) sz = some (.inr (9, [.null, .int 0, .int 0, .int 0, .int 0, .null, .null, .int 0, .null, .null, .null, .int 0, .null, .int 0, .int 0, .int 0, .null, .null, .null, .int 0, .int 0, .null, .int 0, .int 0, .int 0, .null, .null, .null, .null, .int 0, .int 0, .null, .null, .null, .null, .null, .int 0, .null, .null, .int 0, .long 0])) := hup_eq
  have b0 : ∀ b, b < sz → hup g sz (.inr (9, dfX9)) b = g b := fun b hb => hup_ne (by omega)
  have o1 : (hup (hup g sz (.inr (9, dfX9))) (sz + 1) (.inl (1, 200, .inl (fun _ => 0)))) sz = some (.inr (9, [.null, .int 0, .int 0, .int 0, .int 0, .null, .null, .int 0, .null, .null, .null, .int 0, .null, .int 0, .int 0, .int 0, .null, .null, .null, .int 0, .int 0, .null, .int 0, .int 0, .int 0, .null, .null, .null, .null, .int 0, .int 0, .null, .null, .null, .null, .null, .int 0, .null, .null, .int 0, .long 0])) := (hup_ne (by omega)).trans o0
  have b1 : ∀ b, b < sz → (hup (hup g sz (.inr (9, dfX9))) (sz + 1) (.inl (1, 200, .inl (fun _ => 0)))) b = g b := fun b hb => (hup_ne (by omega)).trans (b0 b hb)
  have a1_1 : (hup (hup g sz (.inr (9, dfX9))) (sz + 1) (.inl (1, 200, .inl (fun _ => 0)))) (sz + 1) = some (.inl (1, 200, .inl (fun _ => 0))) := hup_eq
  obtain ⟨g2, e2, o2, x2⟩ := put_step (k := 0) (v := .ref (sz + 1)) (fs' := [.ref (sz + 1), .int 0, .int 0, .int 0, .int 0, .null, .null, .int 0, .null, .null, .null, .int 0, .null, .int 0, .int 0, .int 0, .null, .null, .null, .int 0, .int 0, .null, .int 0, .int 0, .int 0, .null, .null, .null, .null, .int 0, .int 0, .null, .null, .null, .null, .null, .int 0, .null, .null, .int 0, .long 0]) o1 (Nat.le_of_ble_eq_true rfl) rfl
  have b2 : ∀ b, b < sz → g2 b = g b := fun b hb => (x2 b (by omega)).trans (b1 b hb)
  have a2_1 : g2 (sz + 1) = some (.inl (1, 200, .inl (fun _ => 0))) := (x2 _ (by omega)).trans a1_1
  have o3 : (hup g2 (sz + 2) (.inl (0, 180, .inl (fun _ => 0)))) sz = some (.inr (9, [.ref (sz + 1), .int 0, .int 0, .int 0, .int 0, .null, .null, .int 0, .null, .null, .null, .int 0, .null, .int 0, .int 0, .int 0, .null, .null, .null, .int 0, .int 0, .null, .int 0, .int 0, .int 0, .null, .null, .null, .null, .int 0, .int 0, .null, .null, .null, .null, .null, .int 0, .null, .null, .int 0, .long 0])) := (hup_ne (by omega)).trans o2
  have b3 : ∀ b, b < sz → (hup g2 (sz + 2) (.inl (0, 180, .inl (fun _ => 0)))) b = g b := fun b hb => (hup_ne (by omega)).trans (b2 b hb)
  have a3_1 : (hup g2 (sz + 2) (.inl (0, 180, .inl (fun _ => 0)))) (sz + 1) = some (.inl (1, 200, .inl (fun _ => 0))) := (hup_ne (by omega)).trans a2_1
  have a3_2 : (hup g2 (sz + 2) (.inl (0, 180, .inl (fun _ => 0)))) (sz + 2) = some (.inl (0, 180, .inl (fun _ => 0))) := hup_eq
  obtain ⟨g4, e4, o4, x4⟩ := put_step (k := 5) (v := .ref (sz + 2)) (fs' := [.ref (sz + 1), .int 0, .int 0, .int 0, .int 0, .ref (sz + 2), .null, .int 0, .null, .null, .null, .int 0, .null, .int 0, .int 0, .int 0, .null, .null, .null, .int 0, .int 0, .null, .int 0, .int 0, .int 0, .null, .null, .null, .null, .int 0, .int 0, .null, .null, .null, .null, .null, .int 0, .null, .null, .int 0, .long 0]) o3 (Nat.le_of_ble_eq_true rfl) rfl
  have b4 : ∀ b, b < sz → g4 b = g b := fun b hb => (x4 b (by omega)).trans (b3 b hb)
  have a4_1 : g4 (sz + 1) = some (.inl (1, 200, .inl (fun _ => 0))) := (x4 _ (by omega)).trans a3_1
  have a4_2 : g4 (sz + 2) = some (.inl (0, 180, .inl (fun _ => 0))) := (x4 _ (by omega)).trans a3_2
  have o5 : (hup g4 (sz + 3) (.inl (0, 9, .inl (fun _ => 0)))) sz = some (.inr (9, [.ref (sz + 1), .int 0, .int 0, .int 0, .int 0, .ref (sz + 2), .null, .int 0, .null, .null, .null, .int 0, .null, .int 0, .int 0, .int 0, .null, .null, .null, .int 0, .int 0, .null, .int 0, .int 0, .int 0, .null, .null, .null, .null, .int 0, .int 0, .null, .null, .null, .null, .null, .int 0, .null, .null, .int 0, .long 0])) := (hup_ne (by omega)).trans o4
  have b5 : ∀ b, b < sz → (hup g4 (sz + 3) (.inl (0, 9, .inl (fun _ => 0)))) b = g b := fun b hb => (hup_ne (by omega)).trans (b4 b hb)
  have a5_1 : (hup g4 (sz + 3) (.inl (0, 9, .inl (fun _ => 0)))) (sz + 1) = some (.inl (1, 200, .inl (fun _ => 0))) := (hup_ne (by omega)).trans a4_1
  have a5_2 : (hup g4 (sz + 3) (.inl (0, 9, .inl (fun _ => 0)))) (sz + 2) = some (.inl (0, 180, .inl (fun _ => 0))) := (hup_ne (by omega)).trans a4_2
  have a5_3 : (hup g4 (sz + 3) (.inl (0, 9, .inl (fun _ => 0)))) (sz + 3) = some (.inl (0, 9, .inl (fun _ => 0))) := hup_eq
  obtain ⟨g6, e6, o6, x6⟩ := put_step (k := 6) (v := .ref (sz + 3)) (fs' := [.ref (sz + 1), .int 0, .int 0, .int 0, .int 0, .ref (sz + 2), .ref (sz + 3), .int 0, .null, .null, .null, .int 0, .null, .int 0, .int 0, .int 0, .null, .null, .null, .int 0, .int 0, .null, .int 0, .int 0, .int 0, .null, .null, .null, .null, .int 0, .int 0, .null, .null, .null, .null, .null, .int 0, .null, .null, .int 0, .long 0]) o5 (Nat.le_of_ble_eq_true rfl) rfl
  have b6 : ∀ b, b < sz → g6 b = g b := fun b hb => (x6 b (by omega)).trans (b5 b hb)
  have a6_1 : g6 (sz + 1) = some (.inl (1, 200, .inl (fun _ => 0))) := (x6 _ (by omega)).trans a5_1
  have a6_2 : g6 (sz + 2) = some (.inl (0, 180, .inl (fun _ => 0))) := (x6 _ (by omega)).trans a5_2
  have a6_3 : g6 (sz + 3) = some (.inl (0, 9, .inl (fun _ => 0))) := (x6 _ (by omega)).trans a5_3
  have o7 : (hup g6 (sz + 4) (.inl (0, 448, .inl (fun _ => 0)))) sz = some (.inr (9, [.ref (sz + 1), .int 0, .int 0, .int 0, .int 0, .ref (sz + 2), .ref (sz + 3), .int 0, .null, .null, .null, .int 0, .null, .int 0, .int 0, .int 0, .null, .null, .null, .int 0, .int 0, .null, .int 0, .int 0, .int 0, .null, .null, .null, .null, .int 0, .int 0, .null, .null, .null, .null, .null, .int 0, .null, .null, .int 0, .long 0])) := (hup_ne (by omega)).trans o6
  have b7 : ∀ b, b < sz → (hup g6 (sz + 4) (.inl (0, 448, .inl (fun _ => 0)))) b = g b := fun b hb => (hup_ne (by omega)).trans (b6 b hb)
  have a7_1 : (hup g6 (sz + 4) (.inl (0, 448, .inl (fun _ => 0)))) (sz + 1) = some (.inl (1, 200, .inl (fun _ => 0))) := (hup_ne (by omega)).trans a6_1
  have a7_2 : (hup g6 (sz + 4) (.inl (0, 448, .inl (fun _ => 0)))) (sz + 2) = some (.inl (0, 180, .inl (fun _ => 0))) := (hup_ne (by omega)).trans a6_2
  have a7_3 : (hup g6 (sz + 4) (.inl (0, 448, .inl (fun _ => 0)))) (sz + 3) = some (.inl (0, 9, .inl (fun _ => 0))) := (hup_ne (by omega)).trans a6_3
  have a7_4 : (hup g6 (sz + 4) (.inl (0, 448, .inl (fun _ => 0)))) (sz + 4) = some (.inl (0, 448, .inl (fun _ => 0))) := hup_eq
  obtain ⟨g8, e8, o8, x8⟩ := put_step (k := 8) (v := .ref (sz + 4)) (fs' := [.ref (sz + 1), .int 0, .int 0, .int 0, .int 0, .ref (sz + 2), .ref (sz + 3), .int 0, .ref (sz + 4), .null, .null, .int 0, .null, .int 0, .int 0, .int 0, .null, .null, .null, .int 0, .int 0, .null, .int 0, .int 0, .int 0, .null, .null, .null, .null, .int 0, .int 0, .null, .null, .null, .null, .null, .int 0, .null, .null, .int 0, .long 0]) o7 (Nat.le_of_ble_eq_true rfl) rfl
  have b8 : ∀ b, b < sz → g8 b = g b := fun b hb => (x8 b (by omega)).trans (b7 b hb)
  have a8_1 : g8 (sz + 1) = some (.inl (1, 200, .inl (fun _ => 0))) := (x8 _ (by omega)).trans a7_1
  have a8_2 : g8 (sz + 2) = some (.inl (0, 180, .inl (fun _ => 0))) := (x8 _ (by omega)).trans a7_2
  have a8_3 : g8 (sz + 3) = some (.inl (0, 9, .inl (fun _ => 0))) := (x8 _ (by omega)).trans a7_3
  have a8_4 : g8 (sz + 4) = some (.inl (0, 448, .inl (fun _ => 0))) := (x8 _ (by omega)).trans a7_4
  have o9 : (hup g8 (sz + 5) (.inl (0, 7, .inl (fun _ => 0)))) sz = some (.inr (9, [.ref (sz + 1), .int 0, .int 0, .int 0, .int 0, .ref (sz + 2), .ref (sz + 3), .int 0, .ref (sz + 4), .null, .null, .int 0, .null, .int 0, .int 0, .int 0, .null, .null, .null, .int 0, .int 0, .null, .int 0, .int 0, .int 0, .null, .null, .null, .null, .int 0, .int 0, .null, .null, .null, .null, .null, .int 0, .null, .null, .int 0, .long 0])) := (hup_ne (by omega)).trans o8
  have b9 : ∀ b, b < sz → (hup g8 (sz + 5) (.inl (0, 7, .inl (fun _ => 0)))) b = g b := fun b hb => (hup_ne (by omega)).trans (b8 b hb)
  have a9_1 : (hup g8 (sz + 5) (.inl (0, 7, .inl (fun _ => 0)))) (sz + 1) = some (.inl (1, 200, .inl (fun _ => 0))) := (hup_ne (by omega)).trans a8_1
  have a9_2 : (hup g8 (sz + 5) (.inl (0, 7, .inl (fun _ => 0)))) (sz + 2) = some (.inl (0, 180, .inl (fun _ => 0))) := (hup_ne (by omega)).trans a8_2
  have a9_3 : (hup g8 (sz + 5) (.inl (0, 7, .inl (fun _ => 0)))) (sz + 3) = some (.inl (0, 9, .inl (fun _ => 0))) := (hup_ne (by omega)).trans a8_3
  have a9_4 : (hup g8 (sz + 5) (.inl (0, 7, .inl (fun _ => 0)))) (sz + 4) = some (.inl (0, 448, .inl (fun _ => 0))) := (hup_ne (by omega)).trans a8_4
  have a9_5 : (hup g8 (sz + 5) (.inl (0, 7, .inl (fun _ => 0)))) (sz + 5) = some (.inl (0, 7, .inl (fun _ => 0))) := hup_eq
  obtain ⟨g10, e10, o10, x10⟩ := put_step (k := 9) (v := .ref (sz + 5)) (fs' := [.ref (sz + 1), .int 0, .int 0, .int 0, .int 0, .ref (sz + 2), .ref (sz + 3), .int 0, .ref (sz + 4), .ref (sz + 5), .null, .int 0, .null, .int 0, .int 0, .int 0, .null, .null, .null, .int 0, .int 0, .null, .int 0, .int 0, .int 0, .null, .null, .null, .null, .int 0, .int 0, .null, .null, .null, .null, .null, .int 0, .null, .null, .int 0, .long 0]) o9 (Nat.le_of_ble_eq_true rfl) rfl
  have b10 : ∀ b, b < sz → g10 b = g b := fun b hb => (x10 b (by omega)).trans (b9 b hb)
  have a10_1 : g10 (sz + 1) = some (.inl (1, 200, .inl (fun _ => 0))) := (x10 _ (by omega)).trans a9_1
  have a10_2 : g10 (sz + 2) = some (.inl (0, 180, .inl (fun _ => 0))) := (x10 _ (by omega)).trans a9_2
  have a10_3 : g10 (sz + 3) = some (.inl (0, 9, .inl (fun _ => 0))) := (x10 _ (by omega)).trans a9_3
  have a10_4 : g10 (sz + 4) = some (.inl (0, 448, .inl (fun _ => 0))) := (x10 _ (by omega)).trans a9_4
  have a10_5 : g10 (sz + 5) = some (.inl (0, 7, .inl (fun _ => 0))) := (x10 _ (by omega)).trans a9_5
  have o11 : (hup g10 (sz + 6) (.inl (0, 7, .inl (fun _ => 0)))) sz = some (.inr (9, [.ref (sz + 1), .int 0, .int 0, .int 0, .int 0, .ref (sz + 2), .ref (sz + 3), .int 0, .ref (sz + 4), .ref (sz + 5), .null, .int 0, .null, .int 0, .int 0, .int 0, .null, .null, .null, .int 0, .int 0, .null, .int 0, .int 0, .int 0, .null, .null, .null, .null, .int 0, .int 0, .null, .null, .null, .null, .null, .int 0, .null, .null, .int 0, .long 0])) := (hup_ne (by omega)).trans o10
  have b11 : ∀ b, b < sz → (hup g10 (sz + 6) (.inl (0, 7, .inl (fun _ => 0)))) b = g b := fun b hb => (hup_ne (by omega)).trans (b10 b hb)
  have a11_1 : (hup g10 (sz + 6) (.inl (0, 7, .inl (fun _ => 0)))) (sz + 1) = some (.inl (1, 200, .inl (fun _ => 0))) := (hup_ne (by omega)).trans a10_1
  have a11_2 : (hup g10 (sz + 6) (.inl (0, 7, .inl (fun _ => 0)))) (sz + 2) = some (.inl (0, 180, .inl (fun _ => 0))) := (hup_ne (by omega)).trans a10_2
  have a11_3 : (hup g10 (sz + 6) (.inl (0, 7, .inl (fun _ => 0)))) (sz + 3) = some (.inl (0, 9, .inl (fun _ => 0))) := (hup_ne (by omega)).trans a10_3
  have a11_4 : (hup g10 (sz + 6) (.inl (0, 7, .inl (fun _ => 0)))) (sz + 4) = some (.inl (0, 448, .inl (fun _ => 0))) := (hup_ne (by omega)).trans a10_4
  have a11_5 : (hup g10 (sz + 6) (.inl (0, 7, .inl (fun _ => 0)))) (sz + 5) = some (.inl (0, 7, .inl (fun _ => 0))) := (hup_ne (by omega)).trans a10_5
  have a11_6 : (hup g10 (sz + 6) (.inl (0, 7, .inl (fun _ => 0)))) (sz + 6) = some (.inl (0, 7, .inl (fun _ => 0))) := hup_eq
  obtain ⟨g12, e12, o12, x12⟩ := put_step (k := 10) (v := .ref (sz + 6)) (fs' := [.ref (sz + 1), .int 0, .int 0, .int 0, .int 0, .ref (sz + 2), .ref (sz + 3), .int 0, .ref (sz + 4), .ref (sz + 5), .ref (sz + 6), .int 0, .null, .int 0, .int 0, .int 0, .null, .null, .null, .int 0, .int 0, .null, .int 0, .int 0, .int 0, .null, .null, .null, .null, .int 0, .int 0, .null, .null, .null, .null, .null, .int 0, .null, .null, .int 0, .long 0]) o11 (Nat.le_of_ble_eq_true rfl) rfl
  have b12 : ∀ b, b < sz → g12 b = g b := fun b hb => (x12 b (by omega)).trans (b11 b hb)
  have a12_1 : g12 (sz + 1) = some (.inl (1, 200, .inl (fun _ => 0))) := (x12 _ (by omega)).trans a11_1
  have a12_2 : g12 (sz + 2) = some (.inl (0, 180, .inl (fun _ => 0))) := (x12 _ (by omega)).trans a11_2
  have a12_3 : g12 (sz + 3) = some (.inl (0, 9, .inl (fun _ => 0))) := (x12 _ (by omega)).trans a11_3
  have a12_4 : g12 (sz + 4) = some (.inl (0, 448, .inl (fun _ => 0))) := (x12 _ (by omega)).trans a11_4
  have a12_5 : g12 (sz + 5) = some (.inl (0, 7, .inl (fun _ => 0))) := (x12 _ (by omega)).trans a11_5
  have a12_6 : g12 (sz + 6) = some (.inl (0, 7, .inl (fun _ => 0))) := (x12 _ (by omega)).trans a11_6
  have o13 : (hup g12 (sz + 7) (.inl (1, 15, .inl (fun _ => 0)))) sz = some (.inr (9, [.ref (sz + 1), .int 0, .int 0, .int 0, .int 0, .ref (sz + 2), .ref (sz + 3), .int 0, .ref (sz + 4), .ref (sz + 5), .ref (sz + 6), .int 0, .null, .int 0, .int 0, .int 0, .null, .null, .null, .int 0, .int 0, .null, .int 0, .int 0, .int 0, .null, .null, .null, .null, .int 0, .int 0, .null, .null, .null, .null, .null, .int 0, .null, .null, .int 0, .long 0])) := (hup_ne (by omega)).trans o12
  have b13 : ∀ b, b < sz → (hup g12 (sz + 7) (.inl (1, 15, .inl (fun _ => 0)))) b = g b := fun b hb => (hup_ne (by omega)).trans (b12 b hb)
  have a13_1 : (hup g12 (sz + 7) (.inl (1, 15, .inl (fun _ => 0)))) (sz + 1) = some (.inl (1, 200, .inl (fun _ => 0))) := (hup_ne (by omega)).trans a12_1
  have a13_2 : (hup g12 (sz + 7) (.inl (1, 15, .inl (fun _ => 0)))) (sz + 2) = some (.inl (0, 180, .inl (fun _ => 0))) := (hup_ne (by omega)).trans a12_2
  have a13_3 : (hup g12 (sz + 7) (.inl (1, 15, .inl (fun _ => 0)))) (sz + 3) = some (.inl (0, 9, .inl (fun _ => 0))) := (hup_ne (by omega)).trans a12_3
  have a13_4 : (hup g12 (sz + 7) (.inl (1, 15, .inl (fun _ => 0)))) (sz + 4) = some (.inl (0, 448, .inl (fun _ => 0))) := (hup_ne (by omega)).trans a12_4
  have a13_5 : (hup g12 (sz + 7) (.inl (1, 15, .inl (fun _ => 0)))) (sz + 5) = some (.inl (0, 7, .inl (fun _ => 0))) := (hup_ne (by omega)).trans a12_5
  have a13_6 : (hup g12 (sz + 7) (.inl (1, 15, .inl (fun _ => 0)))) (sz + 6) = some (.inl (0, 7, .inl (fun _ => 0))) := (hup_ne (by omega)).trans a12_6
  have a13_7 : (hup g12 (sz + 7) (.inl (1, 15, .inl (fun _ => 0)))) (sz + 7) = some (.inl (1, 15, .inl (fun _ => 0))) := hup_eq
  obtain ⟨g14, e14, y14, x14⟩ := st_step (j := 0) (k := 0) (x := vp_nar .byte 117) a13_7 (by decide) (by decide)
  have o14 : g14 sz = some (.inr (9, [.ref (sz + 1), .int 0, .int 0, .int 0, .int 0, .ref (sz + 2), .ref (sz + 3), .int 0, .ref (sz + 4), .ref (sz + 5), .ref (sz + 6), .int 0, .null, .int 0, .int 0, .int 0, .null, .null, .null, .int 0, .int 0, .null, .int 0, .int 0, .int 0, .null, .null, .null, .null, .int 0, .int 0, .null, .null, .null, .null, .null, .int 0, .null, .null, .int 0, .long 0])) := (x14 _ (by omega)).trans o13
  have b14 : ∀ b, b < sz → g14 b = g b := fun b hb => (x14 b (by omega)).trans (b13 b hb)
  have a14_1 : g14 (sz + 1) = some (.inl (1, 200, .inl (fun _ => 0))) := (x14 _ (by omega)).trans a13_1
  have a14_2 : g14 (sz + 2) = some (.inl (0, 180, .inl (fun _ => 0))) := (x14 _ (by omega)).trans a13_2
  have a14_3 : g14 (sz + 3) = some (.inl (0, 9, .inl (fun _ => 0))) := (x14 _ (by omega)).trans a13_3
  have a14_4 : g14 (sz + 4) = some (.inl (0, 448, .inl (fun _ => 0))) := (x14 _ (by omega)).trans a13_4
  have a14_5 : g14 (sz + 5) = some (.inl (0, 7, .inl (fun _ => 0))) := (x14 _ (by omega)).trans a13_5
  have a14_6 : g14 (sz + 6) = some (.inl (0, 7, .inl (fun _ => 0))) := (x14 _ (by omega)).trans a13_6
  have a14_7 : g14 (sz + 7) = some (.inl (1, 15, .inl (upd (fun _ => 0) 0 (vp_nar .byte 117)))) := y14
  obtain ⟨g15, e15, y15, x15⟩ := st_step (j := 1) (k := 1) (x := vp_nar .byte 112) a14_7 (by decide) (by decide)
  have o15 : g15 sz = some (.inr (9, [.ref (sz + 1), .int 0, .int 0, .int 0, .int 0, .ref (sz + 2), .ref (sz + 3), .int 0, .ref (sz + 4), .ref (sz + 5), .ref (sz + 6), .int 0, .null, .int 0, .int 0, .int 0, .null, .null, .null, .int 0, .int 0, .null, .int 0, .int 0, .int 0, .null, .null, .null, .null, .int 0, .int 0, .null, .null, .null, .null, .null, .int 0, .null, .null, .int 0, .long 0])) := (x15 _ (by omega)).trans o14
  have b15 : ∀ b, b < sz → g15 b = g b := fun b hb => (x15 b (by omega)).trans (b14 b hb)
  have a15_1 : g15 (sz + 1) = some (.inl (1, 200, .inl (fun _ => 0))) := (x15 _ (by omega)).trans a14_1
  have a15_2 : g15 (sz + 2) = some (.inl (0, 180, .inl (fun _ => 0))) := (x15 _ (by omega)).trans a14_2
  have a15_3 : g15 (sz + 3) = some (.inl (0, 9, .inl (fun _ => 0))) := (x15 _ (by omega)).trans a14_3
  have a15_4 : g15 (sz + 4) = some (.inl (0, 448, .inl (fun _ => 0))) := (x15 _ (by omega)).trans a14_4
  have a15_5 : g15 (sz + 5) = some (.inl (0, 7, .inl (fun _ => 0))) := (x15 _ (by omega)).trans a14_5
  have a15_6 : g15 (sz + 6) = some (.inl (0, 7, .inl (fun _ => 0))) := (x15 _ (by omega)).trans a14_6
  have a15_7 : g15 (sz + 7) = some (.inl (1, 15, .inl (upd (upd (fun _ => 0) 0 (vp_nar .byte 117)) 1 (vp_nar .byte 112)))) := y15
  obtain ⟨g16, e16, y16, x16⟩ := st_step (j := 2) (k := 2) (x := vp_nar .byte 0) a15_7 (by decide) (by decide)
  have o16 : g16 sz = some (.inr (9, [.ref (sz + 1), .int 0, .int 0, .int 0, .int 0, .ref (sz + 2), .ref (sz + 3), .int 0, .ref (sz + 4), .ref (sz + 5), .ref (sz + 6), .int 0, .null, .int 0, .int 0, .int 0, .null, .null, .null, .int 0, .int 0, .null, .int 0, .int 0, .int 0, .null, .null, .null, .null, .int 0, .int 0, .null, .null, .null, .null, .null, .int 0, .null, .null, .int 0, .long 0])) := (x16 _ (by omega)).trans o15
  have b16 : ∀ b, b < sz → g16 b = g b := fun b hb => (x16 b (by omega)).trans (b15 b hb)
  have a16_1 : g16 (sz + 1) = some (.inl (1, 200, .inl (fun _ => 0))) := (x16 _ (by omega)).trans a15_1
  have a16_2 : g16 (sz + 2) = some (.inl (0, 180, .inl (fun _ => 0))) := (x16 _ (by omega)).trans a15_2
  have a16_3 : g16 (sz + 3) = some (.inl (0, 9, .inl (fun _ => 0))) := (x16 _ (by omega)).trans a15_3
  have a16_4 : g16 (sz + 4) = some (.inl (0, 448, .inl (fun _ => 0))) := (x16 _ (by omega)).trans a15_4
  have a16_5 : g16 (sz + 5) = some (.inl (0, 7, .inl (fun _ => 0))) := (x16 _ (by omega)).trans a15_5
  have a16_6 : g16 (sz + 6) = some (.inl (0, 7, .inl (fun _ => 0))) := (x16 _ (by omega)).trans a15_6
  have a16_7 : g16 (sz + 7) = some (.inl (1, 15, .inl (upd (upd (upd (fun _ => 0) 0 (vp_nar .byte 117)) 1 (vp_nar .byte 112)) 2 (vp_nar .byte 0)))) := y16
  obtain ⟨g17, e17, y17, x17⟩ := st_step (j := 3) (k := 3) (x := vp_nar .byte 0) a16_7 (by decide) (by decide)
  have o17 : g17 sz = some (.inr (9, [.ref (sz + 1), .int 0, .int 0, .int 0, .int 0, .ref (sz + 2), .ref (sz + 3), .int 0, .ref (sz + 4), .ref (sz + 5), .ref (sz + 6), .int 0, .null, .int 0, .int 0, .int 0, .null, .null, .null, .int 0, .int 0, .null, .int 0, .int 0, .int 0, .null, .null, .null, .null, .int 0, .int 0, .null, .null, .null, .null, .null, .int 0, .null, .null, .int 0, .long 0])) := (x17 _ (by omega)).trans o16
  have b17 : ∀ b, b < sz → g17 b = g b := fun b hb => (x17 b (by omega)).trans (b16 b hb)
  have a17_1 : g17 (sz + 1) = some (.inl (1, 200, .inl (fun _ => 0))) := (x17 _ (by omega)).trans a16_1
  have a17_2 : g17 (sz + 2) = some (.inl (0, 180, .inl (fun _ => 0))) := (x17 _ (by omega)).trans a16_2
  have a17_3 : g17 (sz + 3) = some (.inl (0, 9, .inl (fun _ => 0))) := (x17 _ (by omega)).trans a16_3
  have a17_4 : g17 (sz + 4) = some (.inl (0, 448, .inl (fun _ => 0))) := (x17 _ (by omega)).trans a16_4
  have a17_5 : g17 (sz + 5) = some (.inl (0, 7, .inl (fun _ => 0))) := (x17 _ (by omega)).trans a16_5
  have a17_6 : g17 (sz + 6) = some (.inl (0, 7, .inl (fun _ => 0))) := (x17 _ (by omega)).trans a16_6
  have a17_7 : g17 (sz + 7) = some (.inl (1, 15, .inl (upd (upd (upd (upd (fun _ => 0) 0 (vp_nar .byte 117)) 1 (vp_nar .byte 112)) 2 (vp_nar .byte 0)) 3 (vp_nar .byte 0)))) := y17
  obtain ⟨g18, e18, y18, x18⟩ := st_step (j := 4) (k := 4) (x := vp_nar .byte 0) a17_7 (by decide) (by decide)
  have o18 : g18 sz = some (.inr (9, [.ref (sz + 1), .int 0, .int 0, .int 0, .int 0, .ref (sz + 2), .ref (sz + 3), .int 0, .ref (sz + 4), .ref (sz + 5), .ref (sz + 6), .int 0, .null, .int 0, .int 0, .int 0, .null, .null, .null, .int 0, .int 0, .null, .int 0, .int 0, .int 0, .null, .null, .null, .null, .int 0, .int 0, .null, .null, .null, .null, .null, .int 0, .null, .null, .int 0, .long 0])) := (x18 _ (by omega)).trans o17
  have b18 : ∀ b, b < sz → g18 b = g b := fun b hb => (x18 b (by omega)).trans (b17 b hb)
  have a18_1 : g18 (sz + 1) = some (.inl (1, 200, .inl (fun _ => 0))) := (x18 _ (by omega)).trans a17_1
  have a18_2 : g18 (sz + 2) = some (.inl (0, 180, .inl (fun _ => 0))) := (x18 _ (by omega)).trans a17_2
  have a18_3 : g18 (sz + 3) = some (.inl (0, 9, .inl (fun _ => 0))) := (x18 _ (by omega)).trans a17_3
  have a18_4 : g18 (sz + 4) = some (.inl (0, 448, .inl (fun _ => 0))) := (x18 _ (by omega)).trans a17_4
  have a18_5 : g18 (sz + 5) = some (.inl (0, 7, .inl (fun _ => 0))) := (x18 _ (by omega)).trans a17_5
  have a18_6 : g18 (sz + 6) = some (.inl (0, 7, .inl (fun _ => 0))) := (x18 _ (by omega)).trans a17_6
  have a18_7 : g18 (sz + 7) = some (.inl (1, 15, .inl (upd (upd (upd (upd (upd (fun _ => 0) 0 (vp_nar .byte 117)) 1 (vp_nar .byte 112)) 2 (vp_nar .byte 0)) 3 (vp_nar .byte 0)) 4 (vp_nar .byte 0)))) := y18
  obtain ⟨g19, e19, y19, x19⟩ := st_step (j := 5) (k := 5) (x := vp_nar .byte 100) a18_7 (by decide) (by decide)
  have o19 : g19 sz = some (.inr (9, [.ref (sz + 1), .int 0, .int 0, .int 0, .int 0, .ref (sz + 2), .ref (sz + 3), .int 0, .ref (sz + 4), .ref (sz + 5), .ref (sz + 6), .int 0, .null, .int 0, .int 0, .int 0, .null, .null, .null, .int 0, .int 0, .null, .int 0, .int 0, .int 0, .null, .null, .null, .null, .int 0, .int 0, .null, .null, .null, .null, .null, .int 0, .null, .null, .int 0, .long 0])) := (x19 _ (by omega)).trans o18
  have b19 : ∀ b, b < sz → g19 b = g b := fun b hb => (x19 b (by omega)).trans (b18 b hb)
  have a19_1 : g19 (sz + 1) = some (.inl (1, 200, .inl (fun _ => 0))) := (x19 _ (by omega)).trans a18_1
  have a19_2 : g19 (sz + 2) = some (.inl (0, 180, .inl (fun _ => 0))) := (x19 _ (by omega)).trans a18_2
  have a19_3 : g19 (sz + 3) = some (.inl (0, 9, .inl (fun _ => 0))) := (x19 _ (by omega)).trans a18_3
  have a19_4 : g19 (sz + 4) = some (.inl (0, 448, .inl (fun _ => 0))) := (x19 _ (by omega)).trans a18_4
  have a19_5 : g19 (sz + 5) = some (.inl (0, 7, .inl (fun _ => 0))) := (x19 _ (by omega)).trans a18_5
  have a19_6 : g19 (sz + 6) = some (.inl (0, 7, .inl (fun _ => 0))) := (x19 _ (by omega)).trans a18_6
  have a19_7 : g19 (sz + 7) = some (.inl (1, 15, .inl (upd (upd (upd (upd (upd (upd (fun _ => 0) 0 (vp_nar .byte 117)) 1 (vp_nar .byte 112)) 2 (vp_nar .byte 0)) 3 (vp_nar .byte 0)) 4 (vp_nar .byte 0)) 5 (vp_nar .byte 100)))) := y19
  obtain ⟨g20, e20, y20, x20⟩ := st_step (j := 6) (k := 6) (x := vp_nar .byte 111) a19_7 (by decide) (by decide)
  have o20 : g20 sz = some (.inr (9, [.ref (sz + 1), .int 0, .int 0, .int 0, .int 0, .ref (sz + 2), .ref (sz + 3), .int 0, .ref (sz + 4), .ref (sz + 5), .ref (sz + 6), .int 0, .null, .int 0, .int 0, .int 0, .null, .null, .null, .int 0, .int 0, .null, .int 0, .int 0, .int 0, .null, .null, .null, .null, .int 0, .int 0, .null, .null, .null, .null, .null, .int 0, .null, .null, .int 0, .long 0])) := (x20 _ (by omega)).trans o19
  have b20 : ∀ b, b < sz → g20 b = g b := fun b hb => (x20 b (by omega)).trans (b19 b hb)
  have a20_1 : g20 (sz + 1) = some (.inl (1, 200, .inl (fun _ => 0))) := (x20 _ (by omega)).trans a19_1
  have a20_2 : g20 (sz + 2) = some (.inl (0, 180, .inl (fun _ => 0))) := (x20 _ (by omega)).trans a19_2
  have a20_3 : g20 (sz + 3) = some (.inl (0, 9, .inl (fun _ => 0))) := (x20 _ (by omega)).trans a19_3
  have a20_4 : g20 (sz + 4) = some (.inl (0, 448, .inl (fun _ => 0))) := (x20 _ (by omega)).trans a19_4
  have a20_5 : g20 (sz + 5) = some (.inl (0, 7, .inl (fun _ => 0))) := (x20 _ (by omega)).trans a19_5
  have a20_6 : g20 (sz + 6) = some (.inl (0, 7, .inl (fun _ => 0))) := (x20 _ (by omega)).trans a19_6
  have a20_7 : g20 (sz + 7) = some (.inl (1, 15, .inl (upd (upd (upd (upd (upd (upd (upd (fun _ => 0) 0 (vp_nar .byte 117)) 1 (vp_nar .byte 112)) 2 (vp_nar .byte 0)) 3 (vp_nar .byte 0)) 4 (vp_nar .byte 0)) 5 (vp_nar .byte 100)) 6 (vp_nar .byte 111)))) := y20
  obtain ⟨g21, e21, y21, x21⟩ := st_step (j := 7) (k := 7) (x := vp_nar .byte 119) a20_7 (by decide) (by decide)
  have o21 : g21 sz = some (.inr (9, [.ref (sz + 1), .int 0, .int 0, .int 0, .int 0, .ref (sz + 2), .ref (sz + 3), .int 0, .ref (sz + 4), .ref (sz + 5), .ref (sz + 6), .int 0, .null, .int 0, .int 0, .int 0, .null, .null, .null, .int 0, .int 0, .null, .int 0, .int 0, .int 0, .null, .null, .null, .null, .int 0, .int 0, .null, .null, .null, .null, .null, .int 0, .null, .null, .int 0, .long 0])) := (x21 _ (by omega)).trans o20
  have b21 : ∀ b, b < sz → g21 b = g b := fun b hb => (x21 b (by omega)).trans (b20 b hb)
  have a21_1 : g21 (sz + 1) = some (.inl (1, 200, .inl (fun _ => 0))) := (x21 _ (by omega)).trans a20_1
  have a21_2 : g21 (sz + 2) = some (.inl (0, 180, .inl (fun _ => 0))) := (x21 _ (by omega)).trans a20_2
  have a21_3 : g21 (sz + 3) = some (.inl (0, 9, .inl (fun _ => 0))) := (x21 _ (by omega)).trans a20_3
  have a21_4 : g21 (sz + 4) = some (.inl (0, 448, .inl (fun _ => 0))) := (x21 _ (by omega)).trans a20_4
  have a21_5 : g21 (sz + 5) = some (.inl (0, 7, .inl (fun _ => 0))) := (x21 _ (by omega)).trans a20_5
  have a21_6 : g21 (sz + 6) = some (.inl (0, 7, .inl (fun _ => 0))) := (x21 _ (by omega)).trans a20_6
  have a21_7 : g21 (sz + 7) = some (.inl (1, 15, .inl (upd (upd (upd (upd (upd (upd (upd (upd (fun _ => 0) 0 (vp_nar .byte 117)) 1 (vp_nar .byte 112)) 2 (vp_nar .byte 0)) 3 (vp_nar .byte 0)) 4 (vp_nar .byte 0)) 5 (vp_nar .byte 100)) 6 (vp_nar .byte 111)) 7 (vp_nar .byte 119)))) := y21
  obtain ⟨g22, e22, y22, x22⟩ := st_step (j := 8) (k := 8) (x := vp_nar .byte 110) a21_7 (by decide) (by decide)
  have o22 : g22 sz = some (.inr (9, [.ref (sz + 1), .int 0, .int 0, .int 0, .int 0, .ref (sz + 2), .ref (sz + 3), .int 0, .ref (sz + 4), .ref (sz + 5), .ref (sz + 6), .int 0, .null, .int 0, .int 0, .int 0, .null, .null, .null, .int 0, .int 0, .null, .int 0, .int 0, .int 0, .null, .null, .null, .null, .int 0, .int 0, .null, .null, .null, .null, .null, .int 0, .null, .null, .int 0, .long 0])) := (x22 _ (by omega)).trans o21
  have b22 : ∀ b, b < sz → g22 b = g b := fun b hb => (x22 b (by omega)).trans (b21 b hb)
  have a22_1 : g22 (sz + 1) = some (.inl (1, 200, .inl (fun _ => 0))) := (x22 _ (by omega)).trans a21_1
  have a22_2 : g22 (sz + 2) = some (.inl (0, 180, .inl (fun _ => 0))) := (x22 _ (by omega)).trans a21_2
  have a22_3 : g22 (sz + 3) = some (.inl (0, 9, .inl (fun _ => 0))) := (x22 _ (by omega)).trans a21_3
  have a22_4 : g22 (sz + 4) = some (.inl (0, 448, .inl (fun _ => 0))) := (x22 _ (by omega)).trans a21_4
  have a22_5 : g22 (sz + 5) = some (.inl (0, 7, .inl (fun _ => 0))) := (x22 _ (by omega)).trans a21_5
  have a22_6 : g22 (sz + 6) = some (.inl (0, 7, .inl (fun _ => 0))) := (x22 _ (by omega)).trans a21_6
  have a22_7 : g22 (sz + 7) = some (.inl (1, 15, .inl (upd (upd (upd (upd (upd (upd (upd (upd (upd (fun _ => 0) 0 (vp_nar .byte 117)) 1 (vp_nar .byte 112)) 2 (vp_nar .byte 0)) 3 (vp_nar .byte 0)) 4 (vp_nar .byte 0)) 5 (vp_nar .byte 100)) 6 (vp_nar .byte 111)) 7 (vp_nar .byte 119)) 8 (vp_nar .byte 110)))) := y22
  obtain ⟨g23, e23, y23, x23⟩ := st_step (j := 9) (k := 9) (x := vp_nar .byte 0) a22_7 (by decide) (by decide)
  have o23 : g23 sz = some (.inr (9, [.ref (sz + 1), .int 0, .int 0, .int 0, .int 0, .ref (sz + 2), .ref (sz + 3), .int 0, .ref (sz + 4), .ref (sz + 5), .ref (sz + 6), .int 0, .null, .int 0, .int 0, .int 0, .null, .null, .null, .int 0, .int 0, .null, .int 0, .int 0, .int 0, .null, .null, .null, .null, .int 0, .int 0, .null, .null, .null, .null, .null, .int 0, .null, .null, .int 0, .long 0])) := (x23 _ (by omega)).trans o22
  have b23 : ∀ b, b < sz → g23 b = g b := fun b hb => (x23 b (by omega)).trans (b22 b hb)
  have a23_1 : g23 (sz + 1) = some (.inl (1, 200, .inl (fun _ => 0))) := (x23 _ (by omega)).trans a22_1
  have a23_2 : g23 (sz + 2) = some (.inl (0, 180, .inl (fun _ => 0))) := (x23 _ (by omega)).trans a22_2
  have a23_3 : g23 (sz + 3) = some (.inl (0, 9, .inl (fun _ => 0))) := (x23 _ (by omega)).trans a22_3
  have a23_4 : g23 (sz + 4) = some (.inl (0, 448, .inl (fun _ => 0))) := (x23 _ (by omega)).trans a22_4
  have a23_5 : g23 (sz + 5) = some (.inl (0, 7, .inl (fun _ => 0))) := (x23 _ (by omega)).trans a22_5
  have a23_6 : g23 (sz + 6) = some (.inl (0, 7, .inl (fun _ => 0))) := (x23 _ (by omega)).trans a22_6
  have a23_7 : g23 (sz + 7) = some (.inl (1, 15, .inl (upd (upd (upd (upd (upd (upd (upd (upd (upd (upd (fun _ => 0) 0 (vp_nar .byte 117)) 1 (vp_nar .byte 112)) 2 (vp_nar .byte 0)) 3 (vp_nar .byte 0)) 4 (vp_nar .byte 0)) 5 (vp_nar .byte 100)) 6 (vp_nar .byte 111)) 7 (vp_nar .byte 119)) 8 (vp_nar .byte 110)) 9 (vp_nar .byte 0)))) := y23
  obtain ⟨g24, e24, y24, x24⟩ := st_step (j := 10) (k := 10) (x := vp_nar .byte 97) a23_7 (by decide) (by decide)
  have o24 : g24 sz = some (.inr (9, [.ref (sz + 1), .int 0, .int 0, .int 0, .int 0, .ref (sz + 2), .ref (sz + 3), .int 0, .ref (sz + 4), .ref (sz + 5), .ref (sz + 6), .int 0, .null, .int 0, .int 0, .int 0, .null, .null, .null, .int 0, .int 0, .null, .int 0, .int 0, .int 0, .null, .null, .null, .null, .int 0, .int 0, .null, .null, .null, .null, .null, .int 0, .null, .null, .int 0, .long 0])) := (x24 _ (by omega)).trans o23
  have b24 : ∀ b, b < sz → g24 b = g b := fun b hb => (x24 b (by omega)).trans (b23 b hb)
  have a24_1 : g24 (sz + 1) = some (.inl (1, 200, .inl (fun _ => 0))) := (x24 _ (by omega)).trans a23_1
  have a24_2 : g24 (sz + 2) = some (.inl (0, 180, .inl (fun _ => 0))) := (x24 _ (by omega)).trans a23_2
  have a24_3 : g24 (sz + 3) = some (.inl (0, 9, .inl (fun _ => 0))) := (x24 _ (by omega)).trans a23_3
  have a24_4 : g24 (sz + 4) = some (.inl (0, 448, .inl (fun _ => 0))) := (x24 _ (by omega)).trans a23_4
  have a24_5 : g24 (sz + 5) = some (.inl (0, 7, .inl (fun _ => 0))) := (x24 _ (by omega)).trans a23_5
  have a24_6 : g24 (sz + 6) = some (.inl (0, 7, .inl (fun _ => 0))) := (x24 _ (by omega)).trans a23_6
  have a24_7 : g24 (sz + 7) = some (.inl (1, 15, .inl (upd (upd (upd (upd (upd (upd (upd (upd (upd (upd (upd (fun _ => 0) 0 (vp_nar .byte 117)) 1 (vp_nar .byte 112)) 2 (vp_nar .byte 0)) 3 (vp_nar .byte 0)) 4 (vp_nar .byte 0)) 5 (vp_nar .byte 100)) 6 (vp_nar .byte 111)) 7 (vp_nar .byte 119)) 8 (vp_nar .byte 110)) 9 (vp_nar .byte 0)) 10 (vp_nar .byte 97)))) := y24
  obtain ⟨g25, e25, y25, x25⟩ := st_step (j := 11) (k := 11) (x := vp_nar .byte 110) a24_7 (by decide) (by decide)
  have o25 : g25 sz = some (.inr (9, [.ref (sz + 1), .int 0, .int 0, .int 0, .int 0, .ref (sz + 2), .ref (sz + 3), .int 0, .ref (sz + 4), .ref (sz + 5), .ref (sz + 6), .int 0, .null, .int 0, .int 0, .int 0, .null, .null, .null, .int 0, .int 0, .null, .int 0, .int 0, .int 0, .null, .null, .null, .null, .int 0, .int 0, .null, .null, .null, .null, .null, .int 0, .null, .null, .int 0, .long 0])) := (x25 _ (by omega)).trans o24
  have b25 : ∀ b, b < sz → g25 b = g b := fun b hb => (x25 b (by omega)).trans (b24 b hb)
  have a25_1 : g25 (sz + 1) = some (.inl (1, 200, .inl (fun _ => 0))) := (x25 _ (by omega)).trans a24_1
  have a25_2 : g25 (sz + 2) = some (.inl (0, 180, .inl (fun _ => 0))) := (x25 _ (by omega)).trans a24_2
  have a25_3 : g25 (sz + 3) = some (.inl (0, 9, .inl (fun _ => 0))) := (x25 _ (by omega)).trans a24_3
  have a25_4 : g25 (sz + 4) = some (.inl (0, 448, .inl (fun _ => 0))) := (x25 _ (by omega)).trans a24_4
  have a25_5 : g25 (sz + 5) = some (.inl (0, 7, .inl (fun _ => 0))) := (x25 _ (by omega)).trans a24_5
  have a25_6 : g25 (sz + 6) = some (.inl (0, 7, .inl (fun _ => 0))) := (x25 _ (by omega)).trans a24_6
  have a25_7 : g25 (sz + 7) = some (.inl (1, 15, .inl (upd (upd (upd (upd (upd (upd (upd (upd (upd (upd (upd (upd (fun _ => 0) 0 (vp_nar .byte 117)) 1 (vp_nar .byte 112)) 2 (vp_nar .byte 0)) 3 (vp_nar .byte 0)) 4 (vp_nar .byte 0)) 5 (vp_nar .byte 100)) 6 (vp_nar .byte 111)) 7 (vp_nar .byte 119)) 8 (vp_nar .byte 110)) 9 (vp_nar .byte 0)) 10 (vp_nar .byte 97)) 11 (vp_nar .byte 110)))) := y25
  obtain ⟨g26, e26, y26, x26⟩ := st_step (j := 12) (k := 12) (x := vp_nar .byte 121) a25_7 (by decide) (by decide)
  have o26 : g26 sz = some (.inr (9, [.ref (sz + 1), .int 0, .int 0, .int 0, .int 0, .ref (sz + 2), .ref (sz + 3), .int 0, .ref (sz + 4), .ref (sz + 5), .ref (sz + 6), .int 0, .null, .int 0, .int 0, .int 0, .null, .null, .null, .int 0, .int 0, .null, .int 0, .int 0, .int 0, .null, .null, .null, .null, .int 0, .int 0, .null, .null, .null, .null, .null, .int 0, .null, .null, .int 0, .long 0])) := (x26 _ (by omega)).trans o25
  have b26 : ∀ b, b < sz → g26 b = g b := fun b hb => (x26 b (by omega)).trans (b25 b hb)
  have a26_1 : g26 (sz + 1) = some (.inl (1, 200, .inl (fun _ => 0))) := (x26 _ (by omega)).trans a25_1
  have a26_2 : g26 (sz + 2) = some (.inl (0, 180, .inl (fun _ => 0))) := (x26 _ (by omega)).trans a25_2
  have a26_3 : g26 (sz + 3) = some (.inl (0, 9, .inl (fun _ => 0))) := (x26 _ (by omega)).trans a25_3
  have a26_4 : g26 (sz + 4) = some (.inl (0, 448, .inl (fun _ => 0))) := (x26 _ (by omega)).trans a25_4
  have a26_5 : g26 (sz + 5) = some (.inl (0, 7, .inl (fun _ => 0))) := (x26 _ (by omega)).trans a25_5
  have a26_6 : g26 (sz + 6) = some (.inl (0, 7, .inl (fun _ => 0))) := (x26 _ (by omega)).trans a25_6
  have a26_7 : g26 (sz + 7) = some (.inl (1, 15, .inl (upd (upd (upd (upd (upd (upd (upd (upd (upd (upd (upd (upd (upd (fun _ => 0) 0 (vp_nar .byte 117)) 1 (vp_nar .byte 112)) 2 (vp_nar .byte 0)) 3 (vp_nar .byte 0)) 4 (vp_nar .byte 0)) 5 (vp_nar .byte 100)) 6 (vp_nar .byte 111)) 7 (vp_nar .byte 119)) 8 (vp_nar .byte 110)) 9 (vp_nar .byte 0)) 10 (vp_nar .byte 97)) 11 (vp_nar .byte 110)) 12 (vp_nar .byte 121)))) := y26
  obtain ⟨g27, e27, y27, x27⟩ := st_step (j := 13) (k := 13) (x := vp_nar .byte 0) a26_7 (by decide) (by decide)
  have o27 : g27 sz = some (.inr (9, [.ref (sz + 1), .int 0, .int 0, .int 0, .int 0, .ref (sz + 2), .ref (sz + 3), .int 0, .ref (sz + 4), .ref (sz + 5), .ref (sz + 6), .int 0, .null, .int 0, .int 0, .int 0, .null, .null, .null, .int 0, .int 0, .null, .int 0, .int 0, .int 0, .null, .null, .null, .null, .int 0, .int 0, .null, .null, .null, .null, .null, .int 0, .null, .null, .int 0, .long 0])) := (x27 _ (by omega)).trans o26
  have b27 : ∀ b, b < sz → g27 b = g b := fun b hb => (x27 b (by omega)).trans (b26 b hb)
  have a27_1 : g27 (sz + 1) = some (.inl (1, 200, .inl (fun _ => 0))) := (x27 _ (by omega)).trans a26_1
  have a27_2 : g27 (sz + 2) = some (.inl (0, 180, .inl (fun _ => 0))) := (x27 _ (by omega)).trans a26_2
  have a27_3 : g27 (sz + 3) = some (.inl (0, 9, .inl (fun _ => 0))) := (x27 _ (by omega)).trans a26_3
  have a27_4 : g27 (sz + 4) = some (.inl (0, 448, .inl (fun _ => 0))) := (x27 _ (by omega)).trans a26_4
  have a27_5 : g27 (sz + 5) = some (.inl (0, 7, .inl (fun _ => 0))) := (x27 _ (by omega)).trans a26_5
  have a27_6 : g27 (sz + 6) = some (.inl (0, 7, .inl (fun _ => 0))) := (x27 _ (by omega)).trans a26_6
  have a27_7 : g27 (sz + 7) = some (.inl (1, 15, .inl (upd (upd (upd (upd (upd (upd (upd (upd (upd (upd (upd (upd (upd (upd (fun _ => 0) 0 (vp_nar .byte 117)) 1 (vp_nar .byte 112)) 2 (vp_nar .byte 0)) 3 (vp_nar .byte 0)) 4 (vp_nar .byte 0)) 5 (vp_nar .byte 100)) 6 (vp_nar .byte 111)) 7 (vp_nar .byte 119)) 8 (vp_nar .byte 110)) 9 (vp_nar .byte 0)) 10 (vp_nar .byte 97)) 11 (vp_nar .byte 110)) 12 (vp_nar .byte 121)) 13 (vp_nar .byte 0)))) := y27
  obtain ⟨g28, e28, y28, x28⟩ := st_step (j := 14) (k := 14) (x := vp_nar .byte 0) a27_7 (by decide) (by decide)
  have o28 : g28 sz = some (.inr (9, [.ref (sz + 1), .int 0, .int 0, .int 0, .int 0, .ref (sz + 2), .ref (sz + 3), .int 0, .ref (sz + 4), .ref (sz + 5), .ref (sz + 6), .int 0, .null, .int 0, .int 0, .int 0, .null, .null, .null, .int 0, .int 0, .null, .int 0, .int 0, .int 0, .null, .null, .null, .null, .int 0, .int 0, .null, .null, .null, .null, .null, .int 0, .null, .null, .int 0, .long 0])) := (x28 _ (by omega)).trans o27
  have b28 : ∀ b, b < sz → g28 b = g b := fun b hb => (x28 b (by omega)).trans (b27 b hb)
  have a28_1 : g28 (sz + 1) = some (.inl (1, 200, .inl (fun _ => 0))) := (x28 _ (by omega)).trans a27_1
  have a28_2 : g28 (sz + 2) = some (.inl (0, 180, .inl (fun _ => 0))) := (x28 _ (by omega)).trans a27_2
  have a28_3 : g28 (sz + 3) = some (.inl (0, 9, .inl (fun _ => 0))) := (x28 _ (by omega)).trans a27_3
  have a28_4 : g28 (sz + 4) = some (.inl (0, 448, .inl (fun _ => 0))) := (x28 _ (by omega)).trans a27_4
  have a28_5 : g28 (sz + 5) = some (.inl (0, 7, .inl (fun _ => 0))) := (x28 _ (by omega)).trans a27_5
  have a28_6 : g28 (sz + 6) = some (.inl (0, 7, .inl (fun _ => 0))) := (x28 _ (by omega)).trans a27_6
  have a28_7 : g28 (sz + 7) = some (.inl (1, 15, .inl (upd (upd (upd (upd (upd (upd (upd (upd (upd (upd (upd (upd (upd (upd (upd (fun _ => 0) 0 (vp_nar .byte 117)) 1 (vp_nar .byte 112)) 2 (vp_nar .byte 0)) 3 (vp_nar .byte 0)) 4 (vp_nar .byte 0)) 5 (vp_nar .byte 100)) 6 (vp_nar .byte 111)) 7 (vp_nar .byte 119)) 8 (vp_nar .byte 110)) 9 (vp_nar .byte 0)) 10 (vp_nar .byte 97)) 11 (vp_nar .byte 110)) 12 (vp_nar .byte 121)) 13 (vp_nar .byte 0)) 14 (vp_nar .byte 0)))) := y28
  obtain ⟨g29, e29, o29, x29⟩ := put_step (k := 12) (v := .ref (sz + 7)) (fs' := [.ref (sz + 1), .int 0, .int 0, .int 0, .int 0, .ref (sz + 2), .ref (sz + 3), .int 0, .ref (sz + 4), .ref (sz + 5), .ref (sz + 6), .int 0, .ref (sz + 7), .int 0, .int 0, .int 0, .null, .null, .null, .int 0, .int 0, .null, .int 0, .int 0, .int 0, .null, .null, .null, .null, .int 0, .int 0, .null, .null, .null, .null, .null, .int 0, .null, .null, .int 0, .long 0]) o28 (Nat.le_of_ble_eq_true rfl) rfl
  have b29 : ∀ b, b < sz → g29 b = g b := fun b hb => (x29 b (by omega)).trans (b28 b hb)
  have a29_1 : g29 (sz + 1) = some (.inl (1, 200, .inl (fun _ => 0))) := (x29 _ (by omega)).trans a28_1
  have a29_2 : g29 (sz + 2) = some (.inl (0, 180, .inl (fun _ => 0))) := (x29 _ (by omega)).trans a28_2
  have a29_3 : g29 (sz + 3) = some (.inl (0, 9, .inl (fun _ => 0))) := (x29 _ (by omega)).trans a28_3
  have a29_4 : g29 (sz + 4) = some (.inl (0, 448, .inl (fun _ => 0))) := (x29 _ (by omega)).trans a28_4
  have a29_5 : g29 (sz + 5) = some (.inl (0, 7, .inl (fun _ => 0))) := (x29 _ (by omega)).trans a28_5
  have a29_6 : g29 (sz + 6) = some (.inl (0, 7, .inl (fun _ => 0))) := (x29 _ (by omega)).trans a28_6
  have a29_7 : g29 (sz + 7) = some (.inl (1, 15, .inl (upd (upd (upd (upd (upd (upd (upd (upd (upd (upd (upd (upd (upd (upd (upd (fun _ => 0) 0 (vp_nar .byte 117)) 1 (vp_nar .byte 112)) 2 (vp_nar .byte 0)) 3 (vp_nar .byte 0)) 4 (vp_nar .byte 0)) 5 (vp_nar .byte 100)) 6 (vp_nar .byte 111)) 7 (vp_nar .byte 119)) 8 (vp_nar .byte 110)) 9 (vp_nar .byte 0)) 10 (vp_nar .byte 97)) 11 (vp_nar .byte 110)) 12 (vp_nar .byte 121)) 13 (vp_nar .byte 0)) 14 (vp_nar .byte 0)))) := (x29 _ (by omega)).trans a28_7
  have o30 : (hup g29 (sz + 8) (.inl (0, 133, .inl (fun _ => 0)))) sz = some (.inr (9, [.ref (sz + 1), .int 0, .int 0, .int 0, .int 0, .ref (sz + 2), .ref (sz + 3), .int 0, .ref (sz + 4), .ref (sz + 5), .ref (sz + 6), .int 0, .ref (sz + 7), .int 0, .int 0, .int 0, .null, .null, .null, .int 0, .int 0, .null, .int 0, .int 0, .int 0, .null, .null, .null, .null, .int 0, .int 0, .null, .null, .null, .null, .null, .int 0, .null, .null, .int 0, .long 0])) := (hup_ne (by omega)).trans o29
  have b30 : ∀ b, b < sz → (hup g29 (sz + 8) (.inl (0, 133, .inl (fun _ => 0)))) b = g b := fun b hb => (hup_ne (by omega)).trans (b29 b hb)
  have a30_1 : (hup g29 (sz + 8) (.inl (0, 133, .inl (fun _ => 0)))) (sz + 1) = some (.inl (1, 200, .inl (fun _ => 0))) := (hup_ne (by omega)).trans a29_1
  have a30_2 : (hup g29 (sz + 8) (.inl (0, 133, .inl (fun _ => 0)))) (sz + 2) = some (.inl (0, 180, .inl (fun _ => 0))) := (hup_ne (by omega)).trans a29_2
  have a30_3 : (hup g29 (sz + 8) (.inl (0, 133, .inl (fun _ => 0)))) (sz + 3) = some (.inl (0, 9, .inl (fun _ => 0))) := (hup_ne (by omega)).trans a29_3
  have a30_4 : (hup g29 (sz + 8) (.inl (0, 133, .inl (fun _ => 0)))) (sz + 4) = some (.inl (0, 448, .inl (fun _ => 0))) := (hup_ne (by omega)).trans a29_4
  have a30_5 : (hup g29 (sz + 8) (.inl (0, 133, .inl (fun _ => 0)))) (sz + 5) = some (.inl (0, 7, .inl (fun _ => 0))) := (hup_ne (by omega)).trans a29_5
  have a30_6 : (hup g29 (sz + 8) (.inl (0, 133, .inl (fun _ => 0)))) (sz + 6) = some (.inl (0, 7, .inl (fun _ => 0))) := (hup_ne (by omega)).trans a29_6
  have a30_7 : (hup g29 (sz + 8) (.inl (0, 133, .inl (fun _ => 0)))) (sz + 7) = some (.inl (1, 15, .inl (upd (upd (upd (upd (upd (upd (upd (upd (upd (upd (upd (upd (upd (upd (upd (fun _ => 0) 0 (vp_nar .byte 117)) 1 (vp_nar .byte 112)) 2 (vp_nar .byte 0)) 3 (vp_nar .byte 0)) 4 (vp_nar .byte 0)) 5 (vp_nar .byte 100)) 6 (vp_nar .byte 111)) 7 (vp_nar .byte 119)) 8 (vp_nar .byte 110)) 9 (vp_nar .byte 0)) 10 (vp_nar .byte 97)) 11 (vp_nar .byte 110)) 12 (vp_nar .byte 121)) 13 (vp_nar .byte 0)) 14 (vp_nar .byte 0)))) := (hup_ne (by omega)).trans a29_7
  have a30_8 : (hup g29 (sz + 8) (.inl (0, 133, .inl (fun _ => 0)))) (sz + 8) = some (.inl (0, 133, .inl (fun _ => 0))) := hup_eq
  obtain ⟨g31, e31, o31, x31⟩ := put_step (k := 16) (v := .ref (sz + 8)) (fs' := [.ref (sz + 1), .int 0, .int 0, .int 0, .int 0, .ref (sz + 2), .ref (sz + 3), .int 0, .ref (sz + 4), .ref (sz + 5), .ref (sz + 6), .int 0, .ref (sz + 7), .int 0, .int 0, .int 0, .ref (sz + 8), .null, .null, .int 0, .int 0, .null, .int 0, .int 0, .int 0, .null, .null, .null, .null, .int 0, .int 0, .null, .null, .null, .null, .null, .int 0, .null, .null, .int 0, .long 0]) o30 (Nat.le_of_ble_eq_true rfl) rfl
  have b31 : ∀ b, b < sz → g31 b = g b := fun b hb => (x31 b (by omega)).trans (b30 b hb)
  have a31_1 : g31 (sz + 1) = some (.inl (1, 200, .inl (fun _ => 0))) := (x31 _ (by omega)).trans a30_1
  have a31_2 : g31 (sz + 2) = some (.inl (0, 180, .inl (fun _ => 0))) := (x31 _ (by omega)).trans a30_2
  have a31_3 : g31 (sz + 3) = some (.inl (0, 9, .inl (fun _ => 0))) := (x31 _ (by omega)).trans a30_3
  have a31_4 : g31 (sz + 4) = some (.inl (0, 448, .inl (fun _ => 0))) := (x31 _ (by omega)).trans a30_4
  have a31_5 : g31 (sz + 5) = some (.inl (0, 7, .inl (fun _ => 0))) := (x31 _ (by omega)).trans a30_5
  have a31_6 : g31 (sz + 6) = some (.inl (0, 7, .inl (fun _ => 0))) := (x31 _ (by omega)).trans a30_6
  have a31_7 : g31 (sz + 7) = some (.inl (1, 15, .inl (upd (upd (upd (upd (upd (upd (upd (upd (upd (upd (upd (upd (upd (upd (upd (fun _ => 0) 0 (vp_nar .byte 117)) 1 (vp_nar .byte 112)) 2 (vp_nar .byte 0)) 3 (vp_nar .byte 0)) 4 (vp_nar .byte 0)) 5 (vp_nar .byte 100)) 6 (vp_nar .byte 111)) 7 (vp_nar .byte 119)) 8 (vp_nar .byte 110)) 9 (vp_nar .byte 0)) 10 (vp_nar .byte 97)) 11 (vp_nar .byte 110)) 12 (vp_nar .byte 121)) 13 (vp_nar .byte 0)) 14 (vp_nar .byte 0)))) := (x31 _ (by omega)).trans a30_7
  have a31_8 : g31 (sz + 8) = some (.inl (0, 133, .inl (fun _ => 0))) := (x31 _ (by omega)).trans a30_8
  have o32 : (hup g31 (sz + 9) (.inl (0, 133, .inl (fun _ => 0)))) sz = some (.inr (9, [.ref (sz + 1), .int 0, .int 0, .int 0, .int 0, .ref (sz + 2), .ref (sz + 3), .int 0, .ref (sz + 4), .ref (sz + 5), .ref (sz + 6), .int 0, .ref (sz + 7), .int 0, .int 0, .int 0, .ref (sz + 8), .null, .null, .int 0, .int 0, .null, .int 0, .int 0, .int 0, .null, .null, .null, .null, .int 0, .int 0, .null, .null, .null, .null, .null, .int 0, .null, .null, .int 0, .long 0])) := (hup_ne (by omega)).trans o31
  have b32 : ∀ b, b < sz → (hup g31 (sz + 9) (.inl (0, 133, .inl (fun _ => 0)))) b = g b := fun b hb => (hup_ne (by omega)).trans (b31 b hb)
  have a32_1 : (hup g31 (sz + 9) (.inl (0, 133, .inl (fun _ => 0)))) (sz + 1) = some (.inl (1, 200, .inl (fun _ => 0))) := (hup_ne (by omega)).trans a31_1
  have a32_2 : (hup g31 (sz + 9) (.inl (0, 133, .inl (fun _ => 0)))) (sz + 2) = some (.inl (0, 180, .inl (fun _ => 0))) := (hup_ne (by omega)).trans a31_2
  have a32_3 : (hup g31 (sz + 9) (.inl (0, 133, .inl (fun _ => 0)))) (sz + 3) = some (.inl (0, 9, .inl (fun _ => 0))) := (hup_ne (by omega)).trans a31_3
  have a32_4 : (hup g31 (sz + 9) (.inl (0, 133, .inl (fun _ => 0)))) (sz + 4) = some (.inl (0, 448, .inl (fun _ => 0))) := (hup_ne (by omega)).trans a31_4
  have a32_5 : (hup g31 (sz + 9) (.inl (0, 133, .inl (fun _ => 0)))) (sz + 5) = some (.inl (0, 7, .inl (fun _ => 0))) := (hup_ne (by omega)).trans a31_5
  have a32_6 : (hup g31 (sz + 9) (.inl (0, 133, .inl (fun _ => 0)))) (sz + 6) = some (.inl (0, 7, .inl (fun _ => 0))) := (hup_ne (by omega)).trans a31_6
  have a32_7 : (hup g31 (sz + 9) (.inl (0, 133, .inl (fun _ => 0)))) (sz + 7) = some (.inl (1, 15, .inl (upd (upd (upd (upd (upd (upd (upd (upd (upd (upd (upd (upd (upd (upd (upd (fun _ => 0) 0 (vp_nar .byte 117)) 1 (vp_nar .byte 112)) 2 (vp_nar .byte 0)) 3 (vp_nar .byte 0)) 4 (vp_nar .byte 0)) 5 (vp_nar .byte 100)) 6 (vp_nar .byte 111)) 7 (vp_nar .byte 119)) 8 (vp_nar .byte 110)) 9 (vp_nar .byte 0)) 10 (vp_nar .byte 97)) 11 (vp_nar .byte 110)) 12 (vp_nar .byte 121)) 13 (vp_nar .byte 0)) 14 (vp_nar .byte 0)))) := (hup_ne (by omega)).trans a31_7
  have a32_8 : (hup g31 (sz + 9) (.inl (0, 133, .inl (fun _ => 0)))) (sz + 8) = some (.inl (0, 133, .inl (fun _ => 0))) := (hup_ne (by omega)).trans a31_8
  have a32_9 : (hup g31 (sz + 9) (.inl (0, 133, .inl (fun _ => 0)))) (sz + 9) = some (.inl (0, 133, .inl (fun _ => 0))) := hup_eq
  obtain ⟨g33, e33, o33, x33⟩ := put_step (k := 17) (v := .ref (sz + 9)) (fs' := [.ref (sz + 1), .int 0, .int 0, .int 0, .int 0, .ref (sz + 2), .ref (sz + 3), .int 0, .ref (sz + 4), .ref (sz + 5), .ref (sz + 6), .int 0, .ref (sz + 7), .int 0, .int 0, .int 0, .ref (sz + 8), .ref (sz + 9), .null, .int 0, .int 0, .null, .int 0, .int 0, .int 0, .null, .null, .null, .null, .int 0, .int 0, .null, .null, .null, .null, .null, .int 0, .null, .null, .int 0, .long 0]) o32 (Nat.le_of_ble_eq_true rfl) rfl
  have b33 : ∀ b, b < sz → g33 b = g b := fun b hb => (x33 b (by omega)).trans (b32 b hb)
  have a33_1 : g33 (sz + 1) = some (.inl (1, 200, .inl (fun _ => 0))) := (x33 _ (by omega)).trans a32_1
  have a33_2 : g33 (sz + 2) = some (.inl (0, 180, .inl (fun _ => 0))) := (x33 _ (by omega)).trans a32_2
  have a33_3 : g33 (sz + 3) = some (.inl (0, 9, .inl (fun _ => 0))) := (x33 _ (by omega)).trans a32_3
  have a33_4 : g33 (sz + 4) = some (.inl (0, 448, .inl (fun _ => 0))) := (x33 _ (by omega)).trans a32_4
  have a33_5 : g33 (sz + 5) = some (.inl (0, 7, .inl (fun _ => 0))) := (x33 _ (by omega)).trans a32_5
  have a33_6 : g33 (sz + 6) = some (.inl (0, 7, .inl (fun _ => 0))) := (x33 _ (by omega)).trans a32_6
  have a33_7 : g33 (sz + 7) = some (.inl (1, 15, .inl (upd (upd (upd (upd (upd (upd (upd (upd (upd (upd (upd (upd (upd (upd (upd (fun _ => 0) 0 (vp_nar .byte 117)) 1 (vp_nar .byte 112)) 2 (vp_nar .byte 0)) 3 (vp_nar .byte 0)) 4 (vp_nar .byte 0)) 5 (vp_nar .byte 100)) 6 (vp_nar .byte 111)) 7 (vp_nar .byte 119)) 8 (vp_nar .byte 110)) 9 (vp_nar .byte 0)) 10 (vp_nar .byte 97)) 11 (vp_nar .byte 110)) 12 (vp_nar .byte 121)) 13 (vp_nar .byte 0)) 14 (vp_nar .byte 0)))) := (x33 _ (by omega)).trans a32_7
  have a33_8 : g33 (sz + 8) = some (.inl (0, 133, .inl (fun _ => 0))) := (x33 _ (by omega)).trans a32_8
  have a33_9 : g33 (sz + 9) = some (.inl (0, 133, .inl (fun _ => 0))) := (x33 _ (by omega)).trans a32_9
  have o34 : (hup g33 (sz + 10) (.inl (0, 2660, .inl (fun _ => 0)))) sz = some (.inr (9, [.ref (sz + 1), .int 0, .int 0, .int 0, .int 0, .ref (sz + 2), .ref (sz + 3), .int 0, .ref (sz + 4), .ref (sz + 5), .ref (sz + 6), .int 0, .ref (sz + 7), .int 0, .int 0, .int 0, .ref (sz + 8), .ref (sz + 9), .null, .int 0, .int 0, .null, .int 0, .int 0, .int 0, .null, .null, .null, .null, .int 0, .int 0, .null, .null, .null, .null, .null, .int 0, .null, .null, .int 0, .long 0])) := (hup_ne (by omega)).trans o33
  have b34 : ∀ b, b < sz → (hup g33 (sz + 10) (.inl (0, 2660, .inl (fun _ => 0)))) b = g b := fun b hb => (hup_ne (by omega)).trans (b33 b hb)
  have a34_1 : (hup g33 (sz + 10) (.inl (0, 2660, .inl (fun _ => 0)))) (sz + 1) = some (.inl (1, 200, .inl (fun _ => 0))) := (hup_ne (by omega)).trans a33_1
  have a34_2 : (hup g33 (sz + 10) (.inl (0, 2660, .inl (fun _ => 0)))) (sz + 2) = some (.inl (0, 180, .inl (fun _ => 0))) := (hup_ne (by omega)).trans a33_2
  have a34_3 : (hup g33 (sz + 10) (.inl (0, 2660, .inl (fun _ => 0)))) (sz + 3) = some (.inl (0, 9, .inl (fun _ => 0))) := (hup_ne (by omega)).trans a33_3
  have a34_4 : (hup g33 (sz + 10) (.inl (0, 2660, .inl (fun _ => 0)))) (sz + 4) = some (.inl (0, 448, .inl (fun _ => 0))) := (hup_ne (by omega)).trans a33_4
  have a34_5 : (hup g33 (sz + 10) (.inl (0, 2660, .inl (fun _ => 0)))) (sz + 5) = some (.inl (0, 7, .inl (fun _ => 0))) := (hup_ne (by omega)).trans a33_5
  have a34_6 : (hup g33 (sz + 10) (.inl (0, 2660, .inl (fun _ => 0)))) (sz + 6) = some (.inl (0, 7, .inl (fun _ => 0))) := (hup_ne (by omega)).trans a33_6
  have a34_7 : (hup g33 (sz + 10) (.inl (0, 2660, .inl (fun _ => 0)))) (sz + 7) = some (.inl (1, 15, .inl (upd (upd (upd (upd (upd (upd (upd (upd (upd (upd (upd (upd (upd (upd (upd (fun _ => 0) 0 (vp_nar .byte 117)) 1 (vp_nar .byte 112)) 2 (vp_nar .byte 0)) 3 (vp_nar .byte 0)) 4 (vp_nar .byte 0)) 5 (vp_nar .byte 100)) 6 (vp_nar .byte 111)) 7 (vp_nar .byte 119)) 8 (vp_nar .byte 110)) 9 (vp_nar .byte 0)) 10 (vp_nar .byte 97)) 11 (vp_nar .byte 110)) 12 (vp_nar .byte 121)) 13 (vp_nar .byte 0)) 14 (vp_nar .byte 0)))) := (hup_ne (by omega)).trans a33_7
  have a34_8 : (hup g33 (sz + 10) (.inl (0, 2660, .inl (fun _ => 0)))) (sz + 8) = some (.inl (0, 133, .inl (fun _ => 0))) := (hup_ne (by omega)).trans a33_8
  have a34_9 : (hup g33 (sz + 10) (.inl (0, 2660, .inl (fun _ => 0)))) (sz + 9) = some (.inl (0, 133, .inl (fun _ => 0))) := (hup_ne (by omega)).trans a33_9
  have a34_10 : (hup g33 (sz + 10) (.inl (0, 2660, .inl (fun _ => 0)))) (sz + 10) = some (.inl (0, 2660, .inl (fun _ => 0))) := hup_eq
  obtain ⟨g35, e35, o35, x35⟩ := put_step (k := 18) (v := .ref (sz + 10)) (fs' := [.ref (sz + 1), .int 0, .int 0, .int 0, .int 0, .ref (sz + 2), .ref (sz + 3), .int 0, .ref (sz + 4), .ref (sz + 5), .ref (sz + 6), .int 0, .ref (sz + 7), .int 0, .int 0, .int 0, .ref (sz + 8), .ref (sz + 9), .ref (sz + 10), .int 0, .int 0, .null, .int 0, .int 0, .int 0, .null, .null, .null, .null, .int 0, .int 0, .null, .null, .null, .null, .null, .int 0, .null, .null, .int 0, .long 0]) o34 (Nat.le_of_ble_eq_true rfl) rfl
  have b35 : ∀ b, b < sz → g35 b = g b := fun b hb => (x35 b (by omega)).trans (b34 b hb)
  have a35_1 : g35 (sz + 1) = some (.inl (1, 200, .inl (fun _ => 0))) := (x35 _ (by omega)).trans a34_1
  have a35_2 : g35 (sz + 2) = some (.inl (0, 180, .inl (fun _ => 0))) := (x35 _ (by omega)).trans a34_2
  have a35_3 : g35 (sz + 3) = some (.inl (0, 9, .inl (fun _ => 0))) := (x35 _ (by omega)).trans a34_3
  have a35_4 : g35 (sz + 4) = some (.inl (0, 448, .inl (fun _ => 0))) := (x35 _ (by omega)).trans a34_4
  have a35_5 : g35 (sz + 5) = some (.inl (0, 7, .inl (fun _ => 0))) := (x35 _ (by omega)).trans a34_5
  have a35_6 : g35 (sz + 6) = some (.inl (0, 7, .inl (fun _ => 0))) := (x35 _ (by omega)).trans a34_6
  have a35_7 : g35 (sz + 7) = some (.inl (1, 15, .inl (upd (upd (upd (upd (upd (upd (upd (upd (upd (upd (upd (upd (upd (upd (upd (fun _ => 0) 0 (vp_nar .byte 117)) 1 (vp_nar .byte 112)) 2 (vp_nar .byte 0)) 3 (vp_nar .byte 0)) 4 (vp_nar .byte 0)) 5 (vp_nar .byte 100)) 6 (vp_nar .byte 111)) 7 (vp_nar .byte 119)) 8 (vp_nar .byte 110)) 9 (vp_nar .byte 0)) 10 (vp_nar .byte 97)) 11 (vp_nar .byte 110)) 12 (vp_nar .byte 121)) 13 (vp_nar .byte 0)) 14 (vp_nar .byte 0)))) := (x35 _ (by omega)).trans a34_7
  have a35_8 : g35 (sz + 8) = some (.inl (0, 133, .inl (fun _ => 0))) := (x35 _ (by omega)).trans a34_8
  have a35_9 : g35 (sz + 9) = some (.inl (0, 133, .inl (fun _ => 0))) := (x35 _ (by omega)).trans a34_9
  have a35_10 : g35 (sz + 10) = some (.inl (0, 2660, .inl (fun _ => 0))) := (x35 _ (by omega)).trans a34_10
  have o36 : (hup g35 (sz + 11) (.inl (0, 120, .inl (fun _ => 0)))) sz = some (.inr (9, [.ref (sz + 1), .int 0, .int 0, .int 0, .int 0, .ref (sz + 2), .ref (sz + 3), .int 0, .ref (sz + 4), .ref (sz + 5), .ref (sz + 6), .int 0, .ref (sz + 7), .int 0, .int 0, .int 0, .ref (sz + 8), .ref (sz + 9), .ref (sz + 10), .int 0, .int 0, .null, .int 0, .int 0, .int 0, .null, .null, .null, .null, .int 0, .int 0, .null, .null, .null, .null, .null, .int 0, .null, .null, .int 0, .long 0])) := (hup_ne (by omega)).trans o35
  have b36 : ∀ b, b < sz → (hup g35 (sz + 11) (.inl (0, 120, .inl (fun _ => 0)))) b = g b := fun b hb => (hup_ne (by omega)).trans (b35 b hb)
  have a36_1 : (hup g35 (sz + 11) (.inl (0, 120, .inl (fun _ => 0)))) (sz + 1) = some (.inl (1, 200, .inl (fun _ => 0))) := (hup_ne (by omega)).trans a35_1
  have a36_2 : (hup g35 (sz + 11) (.inl (0, 120, .inl (fun _ => 0)))) (sz + 2) = some (.inl (0, 180, .inl (fun _ => 0))) := (hup_ne (by omega)).trans a35_2
  have a36_3 : (hup g35 (sz + 11) (.inl (0, 120, .inl (fun _ => 0)))) (sz + 3) = some (.inl (0, 9, .inl (fun _ => 0))) := (hup_ne (by omega)).trans a35_3
  have a36_4 : (hup g35 (sz + 11) (.inl (0, 120, .inl (fun _ => 0)))) (sz + 4) = some (.inl (0, 448, .inl (fun _ => 0))) := (hup_ne (by omega)).trans a35_4
  have a36_5 : (hup g35 (sz + 11) (.inl (0, 120, .inl (fun _ => 0)))) (sz + 5) = some (.inl (0, 7, .inl (fun _ => 0))) := (hup_ne (by omega)).trans a35_5
  have a36_6 : (hup g35 (sz + 11) (.inl (0, 120, .inl (fun _ => 0)))) (sz + 6) = some (.inl (0, 7, .inl (fun _ => 0))) := (hup_ne (by omega)).trans a35_6
  have a36_7 : (hup g35 (sz + 11) (.inl (0, 120, .inl (fun _ => 0)))) (sz + 7) = some (.inl (1, 15, .inl (upd (upd (upd (upd (upd (upd (upd (upd (upd (upd (upd (upd (upd (upd (upd (fun _ => 0) 0 (vp_nar .byte 117)) 1 (vp_nar .byte 112)) 2 (vp_nar .byte 0)) 3 (vp_nar .byte 0)) 4 (vp_nar .byte 0)) 5 (vp_nar .byte 100)) 6 (vp_nar .byte 111)) 7 (vp_nar .byte 119)) 8 (vp_nar .byte 110)) 9 (vp_nar .byte 0)) 10 (vp_nar .byte 97)) 11 (vp_nar .byte 110)) 12 (vp_nar .byte 121)) 13 (vp_nar .byte 0)) 14 (vp_nar .byte 0)))) := (hup_ne (by omega)).trans a35_7
  have a36_8 : (hup g35 (sz + 11) (.inl (0, 120, .inl (fun _ => 0)))) (sz + 8) = some (.inl (0, 133, .inl (fun _ => 0))) := (hup_ne (by omega)).trans a35_8
  have a36_9 : (hup g35 (sz + 11) (.inl (0, 120, .inl (fun _ => 0)))) (sz + 9) = some (.inl (0, 133, .inl (fun _ => 0))) := (hup_ne (by omega)).trans a35_9
  have a36_10 : (hup g35 (sz + 11) (.inl (0, 120, .inl (fun _ => 0)))) (sz + 10) = some (.inl (0, 2660, .inl (fun _ => 0))) := (hup_ne (by omega)).trans a35_10
  have a36_11 : (hup g35 (sz + 11) (.inl (0, 120, .inl (fun _ => 0)))) (sz + 11) = some (.inl (0, 120, .inl (fun _ => 0))) := hup_eq
  obtain ⟨g37, e37, o37, x37⟩ := put_step (k := 21) (v := .ref (sz + 11)) (fs' := [.ref (sz + 1), .int 0, .int 0, .int 0, .int 0, .ref (sz + 2), .ref (sz + 3), .int 0, .ref (sz + 4), .ref (sz + 5), .ref (sz + 6), .int 0, .ref (sz + 7), .int 0, .int 0, .int 0, .ref (sz + 8), .ref (sz + 9), .ref (sz + 10), .int 0, .int 0, .ref (sz + 11), .int 0, .int 0, .int 0, .null, .null, .null, .null, .int 0, .int 0, .null, .null, .null, .null, .null, .int 0, .null, .null, .int 0, .long 0]) o36 (Nat.le_of_ble_eq_true rfl) rfl
  have b37 : ∀ b, b < sz → g37 b = g b := fun b hb => (x37 b (by omega)).trans (b36 b hb)
  have a37_1 : g37 (sz + 1) = some (.inl (1, 200, .inl (fun _ => 0))) := (x37 _ (by omega)).trans a36_1
  have a37_2 : g37 (sz + 2) = some (.inl (0, 180, .inl (fun _ => 0))) := (x37 _ (by omega)).trans a36_2
  have a37_3 : g37 (sz + 3) = some (.inl (0, 9, .inl (fun _ => 0))) := (x37 _ (by omega)).trans a36_3
  have a37_4 : g37 (sz + 4) = some (.inl (0, 448, .inl (fun _ => 0))) := (x37 _ (by omega)).trans a36_4
  have a37_5 : g37 (sz + 5) = some (.inl (0, 7, .inl (fun _ => 0))) := (x37 _ (by omega)).trans a36_5
  have a37_6 : g37 (sz + 6) = some (.inl (0, 7, .inl (fun _ => 0))) := (x37 _ (by omega)).trans a36_6
  have a37_7 : g37 (sz + 7) = some (.inl (1, 15, .inl (upd (upd (upd (upd (upd (upd (upd (upd (upd (upd (upd (upd (upd (upd (upd (fun _ => 0) 0 (vp_nar .byte 117)) 1 (vp_nar .byte 112)) 2 (vp_nar .byte 0)) 3 (vp_nar .byte 0)) 4 (vp_nar .byte 0)) 5 (vp_nar .byte 100)) 6 (vp_nar .byte 111)) 7 (vp_nar .byte 119)) 8 (vp_nar .byte 110)) 9 (vp_nar .byte 0)) 10 (vp_nar .byte 97)) 11 (vp_nar .byte 110)) 12 (vp_nar .byte 121)) 13 (vp_nar .byte 0)) 14 (vp_nar .byte 0)))) := (x37 _ (by omega)).trans a36_7
  have a37_8 : g37 (sz + 8) = some (.inl (0, 133, .inl (fun _ => 0))) := (x37 _ (by omega)).trans a36_8
  have a37_9 : g37 (sz + 9) = some (.inl (0, 133, .inl (fun _ => 0))) := (x37 _ (by omega)).trans a36_9
  have a37_10 : g37 (sz + 10) = some (.inl (0, 2660, .inl (fun _ => 0))) := (x37 _ (by omega)).trans a36_10
  have a37_11 : g37 (sz + 11) = some (.inl (0, 120, .inl (fun _ => 0))) := (x37 _ (by omega)).trans a36_11
  have o38 : (hup g37 (sz + 12) (.inl (2, 4804, .inr (.inl (fun _ => 0))))) sz = some (.inr (9, [.ref (sz + 1), .int 0, .int 0, .int 0, .int 0, .ref (sz + 2), .ref (sz + 3), .int 0, .ref (sz + 4), .ref (sz + 5), .ref (sz + 6), .int 0, .ref (sz + 7), .int 0, .int 0, .int 0, .ref (sz + 8), .ref (sz + 9), .ref (sz + 10), .int 0, .int 0, .ref (sz + 11), .int 0, .int 0, .int 0, .null, .null, .null, .null, .int 0, .int 0, .null, .null, .null, .null, .null, .int 0, .null, .null, .int 0, .long 0])) := (hup_ne (by omega)).trans o37
  have b38 : ∀ b, b < sz → (hup g37 (sz + 12) (.inl (2, 4804, .inr (.inl (fun _ => 0))))) b = g b := fun b hb => (hup_ne (by omega)).trans (b37 b hb)
  have a38_1 : (hup g37 (sz + 12) (.inl (2, 4804, .inr (.inl (fun _ => 0))))) (sz + 1) = some (.inl (1, 200, .inl (fun _ => 0))) := (hup_ne (by omega)).trans a37_1
  have a38_2 : (hup g37 (sz + 12) (.inl (2, 4804, .inr (.inl (fun _ => 0))))) (sz + 2) = some (.inl (0, 180, .inl (fun _ => 0))) := (hup_ne (by omega)).trans a37_2
  have a38_3 : (hup g37 (sz + 12) (.inl (2, 4804, .inr (.inl (fun _ => 0))))) (sz + 3) = some (.inl (0, 9, .inl (fun _ => 0))) := (hup_ne (by omega)).trans a37_3
  have a38_4 : (hup g37 (sz + 12) (.inl (2, 4804, .inr (.inl (fun _ => 0))))) (sz + 4) = some (.inl (0, 448, .inl (fun _ => 0))) := (hup_ne (by omega)).trans a37_4
  have a38_5 : (hup g37 (sz + 12) (.inl (2, 4804, .inr (.inl (fun _ => 0))))) (sz + 5) = some (.inl (0, 7, .inl (fun _ => 0))) := (hup_ne (by omega)).trans a37_5
  have a38_6 : (hup g37 (sz + 12) (.inl (2, 4804, .inr (.inl (fun _ => 0))))) (sz + 6) = some (.inl (0, 7, .inl (fun _ => 0))) := (hup_ne (by omega)).trans a37_6
  have a38_7 : (hup g37 (sz + 12) (.inl (2, 4804, .inr (.inl (fun _ => 0))))) (sz + 7) = some (.inl (1, 15, .inl (upd (upd (upd (upd (upd (upd (upd (upd (upd (upd (upd (upd (upd (upd (upd (fun _ => 0) 0 (vp_nar .byte 117)) 1 (vp_nar .byte 112)) 2 (vp_nar .byte 0)) 3 (vp_nar .byte 0)) 4 (vp_nar .byte 0)) 5 (vp_nar .byte 100)) 6 (vp_nar .byte 111)) 7 (vp_nar .byte 119)) 8 (vp_nar .byte 110)) 9 (vp_nar .byte 0)) 10 (vp_nar .byte 97)) 11 (vp_nar .byte 110)) 12 (vp_nar .byte 121)) 13 (vp_nar .byte 0)) 14 (vp_nar .byte 0)))) := (hup_ne (by omega)).trans a37_7
  have a38_8 : (hup g37 (sz + 12) (.inl (2, 4804, .inr (.inl (fun _ => 0))))) (sz + 8) = some (.inl (0, 133, .inl (fun _ => 0))) := (hup_ne (by omega)).trans a37_8
  have a38_9 : (hup g37 (sz + 12) (.inl (2, 4804, .inr (.inl (fun _ => 0))))) (sz + 9) = some (.inl (0, 133, .inl (fun _ => 0))) := (hup_ne (by omega)).trans a37_9
  have a38_10 : (hup g37 (sz + 12) (.inl (2, 4804, .inr (.inl (fun _ => 0))))) (sz + 10) = some (.inl (0, 2660, .inl (fun _ => 0))) := (hup_ne (by omega)).trans a37_10
  have a38_11 : (hup g37 (sz + 12) (.inl (2, 4804, .inr (.inl (fun _ => 0))))) (sz + 11) = some (.inl (0, 120, .inl (fun _ => 0))) := (hup_ne (by omega)).trans a37_11
  have a38_12 : (hup g37 (sz + 12) (.inl (2, 4804, .inr (.inl (fun _ => 0))))) (sz + 12) = some (.inl (2, 4804, .inr (.inl (fun _ => 0)))) := hup_eq
  obtain ⟨g39, e39, o39, x39⟩ := put_step (k := 25) (v := .ref (sz + 12)) (fs' := [.ref (sz + 1), .int 0, .int 0, .int 0, .int 0, .ref (sz + 2), .ref (sz + 3), .int 0, .ref (sz + 4), .ref (sz + 5), .ref (sz + 6), .int 0, .ref (sz + 7), .int 0, .int 0, .int 0, .ref (sz + 8), .ref (sz + 9), .ref (sz + 10), .int 0, .int 0, .ref (sz + 11), .int 0, .int 0, .int 0, .ref (sz + 12), .null, .null, .null, .int 0, .int 0, .null, .null, .null, .null, .null, .int 0, .null, .null, .int 0, .long 0]) o38 (Nat.le_of_ble_eq_true rfl) rfl
  have b39 : ∀ b, b < sz → g39 b = g b := fun b hb => (x39 b (by omega)).trans (b38 b hb)
  have a39_1 : g39 (sz + 1) = some (.inl (1, 200, .inl (fun _ => 0))) := (x39 _ (by omega)).trans a38_1
  have a39_2 : g39 (sz + 2) = some (.inl (0, 180, .inl (fun _ => 0))) := (x39 _ (by omega)).trans a38_2
  have a39_3 : g39 (sz + 3) = some (.inl (0, 9, .inl (fun _ => 0))) := (x39 _ (by omega)).trans a38_3
  have a39_4 : g39 (sz + 4) = some (.inl (0, 448, .inl (fun _ => 0))) := (x39 _ (by omega)).trans a38_4
  have a39_5 : g39 (sz + 5) = some (.inl (0, 7, .inl (fun _ => 0))) := (x39 _ (by omega)).trans a38_5
  have a39_6 : g39 (sz + 6) = some (.inl (0, 7, .inl (fun _ => 0))) := (x39 _ (by omega)).trans a38_6
  have a39_7 : g39 (sz + 7) = some (.inl (1, 15, .inl (upd (upd (upd (upd (upd (upd (upd (upd (upd (upd (upd (upd (upd (upd (upd (fun _ => 0) 0 (vp_nar .byte 117)) 1 (vp_nar .byte 112)) 2 (vp_nar .byte 0)) 3 (vp_nar .byte 0)) 4 (vp_nar .byte 0)) 5 (vp_nar .byte 100)) 6 (vp_nar .byte 111)) 7 (vp_nar .byte 119)) 8 (vp_nar .byte 110)) 9 (vp_nar .byte 0)) 10 (vp_nar .byte 97)) 11 (vp_nar .byte 110)) 12 (vp_nar .byte 121)) 13 (vp_nar .byte 0)) 14 (vp_nar .byte 0)))) := (x39 _ (by omega)).trans a38_7
  have a39_8 : g39 (sz + 8) = some (.inl (0, 133, .inl (fun _ => 0))) := (x39 _ (by omega)).trans a38_8
  have a39_9 : g39 (sz + 9) = some (.inl (0, 133, .inl (fun _ => 0))) := (x39 _ (by omega)).trans a38_9
  have a39_10 : g39 (sz + 10) = some (.inl (0, 2660, .inl (fun _ => 0))) := (x39 _ (by omega)).trans a38_10
  have a39_11 : g39 (sz + 11) = some (.inl (0, 120, .inl (fun _ => 0))) := (x39 _ (by omega)).trans a38_11
  have a39_12 : g39 (sz + 12) = some (.inl (2, 4804, .inr (.inl (fun _ => 0)))) := (x39 _ (by omega)).trans a38_12
  have o40 : (hup g39 (sz + 13) (.inl (0, 1201, .inl (fun _ => 0)))) sz = some (.inr (9, [.ref (sz + 1), .int 0, .int 0, .int 0, .int 0, .ref (sz + 2), .ref (sz + 3), .int 0, .ref (sz + 4), .ref (sz + 5), .ref (sz + 6), .int 0, .ref (sz + 7), .int 0, .int 0, .int 0, .ref (sz + 8), .ref (sz + 9), .ref (sz + 10), .int 0, .int 0, .ref (sz + 11), .int 0, .int 0, .int 0, .ref (sz + 12), .null, .null, .null, .int 0, .int 0, .null, .null, .null, .null, .null, .int 0, .null, .null, .int 0, .long 0])) := (hup_ne (by omega)).trans o39
  have b40 : ∀ b, b < sz → (hup g39 (sz + 13) (.inl (0, 1201, .inl (fun _ => 0)))) b = g b := fun b hb => (hup_ne (by omega)).trans (b39 b hb)
  have a40_1 : (hup g39 (sz + 13) (.inl (0, 1201, .inl (fun _ => 0)))) (sz + 1) = some (.inl (1, 200, .inl (fun _ => 0))) := (hup_ne (by omega)).trans a39_1
  have a40_2 : (hup g39 (sz + 13) (.inl (0, 1201, .inl (fun _ => 0)))) (sz + 2) = some (.inl (0, 180, .inl (fun _ => 0))) := (hup_ne (by omega)).trans a39_2
  have a40_3 : (hup g39 (sz + 13) (.inl (0, 1201, .inl (fun _ => 0)))) (sz + 3) = some (.inl (0, 9, .inl (fun _ => 0))) := (hup_ne (by omega)).trans a39_3
  have a40_4 : (hup g39 (sz + 13) (.inl (0, 1201, .inl (fun _ => 0)))) (sz + 4) = some (.inl (0, 448, .inl (fun _ => 0))) := (hup_ne (by omega)).trans a39_4
  have a40_5 : (hup g39 (sz + 13) (.inl (0, 1201, .inl (fun _ => 0)))) (sz + 5) = some (.inl (0, 7, .inl (fun _ => 0))) := (hup_ne (by omega)).trans a39_5
  have a40_6 : (hup g39 (sz + 13) (.inl (0, 1201, .inl (fun _ => 0)))) (sz + 6) = some (.inl (0, 7, .inl (fun _ => 0))) := (hup_ne (by omega)).trans a39_6
  have a40_7 : (hup g39 (sz + 13) (.inl (0, 1201, .inl (fun _ => 0)))) (sz + 7) = some (.inl (1, 15, .inl (upd (upd (upd (upd (upd (upd (upd (upd (upd (upd (upd (upd (upd (upd (upd (fun _ => 0) 0 (vp_nar .byte 117)) 1 (vp_nar .byte 112)) 2 (vp_nar .byte 0)) 3 (vp_nar .byte 0)) 4 (vp_nar .byte 0)) 5 (vp_nar .byte 100)) 6 (vp_nar .byte 111)) 7 (vp_nar .byte 119)) 8 (vp_nar .byte 110)) 9 (vp_nar .byte 0)) 10 (vp_nar .byte 97)) 11 (vp_nar .byte 110)) 12 (vp_nar .byte 121)) 13 (vp_nar .byte 0)) 14 (vp_nar .byte 0)))) := (hup_ne (by omega)).trans a39_7
  have a40_8 : (hup g39 (sz + 13) (.inl (0, 1201, .inl (fun _ => 0)))) (sz + 8) = some (.inl (0, 133, .inl (fun _ => 0))) := (hup_ne (by omega)).trans a39_8
  have a40_9 : (hup g39 (sz + 13) (.inl (0, 1201, .inl (fun _ => 0)))) (sz + 9) = some (.inl (0, 133, .inl (fun _ => 0))) := (hup_ne (by omega)).trans a39_9
  have a40_10 : (hup g39 (sz + 13) (.inl (0, 1201, .inl (fun _ => 0)))) (sz + 10) = some (.inl (0, 2660, .inl (fun _ => 0))) := (hup_ne (by omega)).trans a39_10
  have a40_11 : (hup g39 (sz + 13) (.inl (0, 1201, .inl (fun _ => 0)))) (sz + 11) = some (.inl (0, 120, .inl (fun _ => 0))) := (hup_ne (by omega)).trans a39_11
  have a40_12 : (hup g39 (sz + 13) (.inl (0, 1201, .inl (fun _ => 0)))) (sz + 12) = some (.inl (2, 4804, .inr (.inl (fun _ => 0)))) := (hup_ne (by omega)).trans a39_12
  have a40_13 : (hup g39 (sz + 13) (.inl (0, 1201, .inl (fun _ => 0)))) (sz + 13) = some (.inl (0, 1201, .inl (fun _ => 0))) := hup_eq
  obtain ⟨g41, e41, o41, x41⟩ := put_step (k := 26) (v := .ref (sz + 13)) (fs' := [.ref (sz + 1), .int 0, .int 0, .int 0, .int 0, .ref (sz + 2), .ref (sz + 3), .int 0, .ref (sz + 4), .ref (sz + 5), .ref (sz + 6), .int 0, .ref (sz + 7), .int 0, .int 0, .int 0, .ref (sz + 8), .ref (sz + 9), .ref (sz + 10), .int 0, .int 0, .ref (sz + 11), .int 0, .int 0, .int 0, .ref (sz + 12), .ref (sz + 13), .null, .null, .int 0, .int 0, .null, .null, .null, .null, .null, .int 0, .null, .null, .int 0, .long 0]) o40 (Nat.le_of_ble_eq_true rfl) rfl
  have b41 : ∀ b, b < sz → g41 b = g b := fun b hb => (x41 b (by omega)).trans (b40 b hb)
  have a41_1 : g41 (sz + 1) = some (.inl (1, 200, .inl (fun _ => 0))) := (x41 _ (by omega)).trans a40_1
  have a41_2 : g41 (sz + 2) = some (.inl (0, 180, .inl (fun _ => 0))) := (x41 _ (by omega)).trans a40_2
  have a41_3 : g41 (sz + 3) = some (.inl (0, 9, .inl (fun _ => 0))) := (x41 _ (by omega)).trans a40_3
  have a41_4 : g41 (sz + 4) = some (.inl (0, 448, .inl (fun _ => 0))) := (x41 _ (by omega)).trans a40_4
  have a41_5 : g41 (sz + 5) = some (.inl (0, 7, .inl (fun _ => 0))) := (x41 _ (by omega)).trans a40_5
  have a41_6 : g41 (sz + 6) = some (.inl (0, 7, .inl (fun _ => 0))) := (x41 _ (by omega)).trans a40_6
  have a41_7 : g41 (sz + 7) = some (.inl (1, 15, .inl (upd (upd (upd (upd (upd (upd (upd (upd (upd (upd (upd (upd (upd (upd (upd (fun _ => 0) 0 (vp_nar .byte 117)) 1 (vp_nar .byte 112)) 2 (vp_nar .byte 0)) 3 (vp_nar .byte 0)) 4 (vp_nar .byte 0)) 5 (vp_nar .byte 100)) 6 (vp_nar .byte 111)) 7 (vp_nar .byte 119)) 8 (vp_nar .byte 110)) 9 (vp_nar .byte 0)) 10 (vp_nar .byte 97)) 11 (vp_nar .byte 110)) 12 (vp_nar .byte 121)) 13 (vp_nar .byte 0)) 14 (vp_nar .byte 0)))) := (x41 _ (by omega)).trans a40_7
  have a41_8 : g41 (sz + 8) = some (.inl (0, 133, .inl (fun _ => 0))) := (x41 _ (by omega)).trans a40_8
  have a41_9 : g41 (sz + 9) = some (.inl (0, 133, .inl (fun _ => 0))) := (x41 _ (by omega)).trans a40_9
  have a41_10 : g41 (sz + 10) = some (.inl (0, 2660, .inl (fun _ => 0))) := (x41 _ (by omega)).trans a40_10
  have a41_11 : g41 (sz + 11) = some (.inl (0, 120, .inl (fun _ => 0))) := (x41 _ (by omega)).trans a40_11
  have a41_12 : g41 (sz + 12) = some (.inl (2, 4804, .inr (.inl (fun _ => 0)))) := (x41 _ (by omega)).trans a40_12
  have a41_13 : g41 (sz + 13) = some (.inl (0, 1201, .inl (fun _ => 0))) := (x41 _ (by omega)).trans a40_13
  have o42 : (hup g41 (sz + 14) (.inl (0, 1201, .inl (fun _ => 0)))) sz = some (.inr (9, [.ref (sz + 1), .int 0, .int 0, .int 0, .int 0, .ref (sz + 2), .ref (sz + 3), .int 0, .ref (sz + 4), .ref (sz + 5), .ref (sz + 6), .int 0, .ref (sz + 7), .int 0, .int 0, .int 0, .ref (sz + 8), .ref (sz + 9), .ref (sz + 10), .int 0, .int 0, .ref (sz + 11), .int 0, .int 0, .int 0, .ref (sz + 12), .ref (sz + 13), .null, .null, .int 0, .int 0, .null, .null, .null, .null, .null, .int 0, .null, .null, .int 0, .long 0])) := (hup_ne (by omega)).trans o41
  have b42 : ∀ b, b < sz → (hup g41 (sz + 14) (.inl (0, 1201, .inl (fun _ => 0)))) b = g b := fun b hb => (hup_ne (by omega)).trans (b41 b hb)
  have a42_1 : (hup g41 (sz + 14) (.inl (0, 1201, .inl (fun _ => 0)))) (sz + 1) = some (.inl (1, 200, .inl (fun _ => 0))) := (hup_ne (by omega)).trans a41_1
  have a42_2 : (hup g41 (sz + 14) (.inl (0, 1201, .inl (fun _ => 0)))) (sz + 2) = some (.inl (0, 180, .inl (fun _ => 0))) := (hup_ne (by omega)).trans a41_2
  have a42_3 : (hup g41 (sz + 14) (.inl (0, 1201, .inl (fun _ => 0)))) (sz + 3) = some (.inl (0, 9, .inl (fun _ => 0))) := (hup_ne (by omega)).trans a41_3
  have a42_4 : (hup g41 (sz + 14) (.inl (0, 1201, .inl (fun _ => 0)))) (sz + 4) = some (.inl (0, 448, .inl (fun _ => 0))) := (hup_ne (by omega)).trans a41_4
  have a42_5 : (hup g41 (sz + 14) (.inl (0, 1201, .inl (fun _ => 0)))) (sz + 5) = some (.inl (0, 7, .inl (fun _ => 0))) := (hup_ne (by omega)).trans a41_5
  have a42_6 : (hup g41 (sz + 14) (.inl (0, 1201, .inl (fun _ => 0)))) (sz + 6) = some (.inl (0, 7, .inl (fun _ => 0))) := (hup_ne (by omega)).trans a41_6
  have a42_7 : (hup g41 (sz + 14) (.inl (0, 1201, .inl (fun _ => 0)))) (sz + 7) = some (.inl (1, 15, .inl (upd (upd (upd (upd (upd (upd (upd (upd (upd (upd (upd (upd (upd (upd (upd (fun _ => 0) 0 (vp_nar .byte 117)) 1 (vp_nar .byte 112)) 2 (vp_nar .byte 0)) 3 (vp_nar .byte 0)) 4 (vp_nar .byte 0)) 5 (vp_nar .byte 100)) 6 (vp_nar .byte 111)) 7 (vp_nar .byte 119)) 8 (vp_nar .byte 110)) 9 (vp_nar .byte 0)) 10 (vp_nar .byte 97)) 11 (vp_nar .byte 110)) 12 (vp_nar .byte 121)) 13 (vp_nar .byte 0)) 14 (vp_nar .byte 0)))) := (hup_ne (by omega)).trans a41_7
  have a42_8 : (hup g41 (sz + 14) (.inl (0, 1201, .inl (fun _ => 0)))) (sz + 8) = some (.inl (0, 133, .inl (fun _ => 0))) := (hup_ne (by omega)).trans a41_8
  have a42_9 : (hup g41 (sz + 14) (.inl (0, 1201, .inl (fun _ => 0)))) (sz + 9) = some (.inl (0, 133, .inl (fun _ => 0))) := (hup_ne (by omega)).trans a41_9
  have a42_10 : (hup g41 (sz + 14) (.inl (0, 1201, .inl (fun _ => 0)))) (sz + 10) = some (.inl (0, 2660, .inl (fun _ => 0))) := (hup_ne (by omega)).trans a41_10
  have a42_11 : (hup g41 (sz + 14) (.inl (0, 1201, .inl (fun _ => 0)))) (sz + 11) = some (.inl (0, 120, .inl (fun _ => 0))) := (hup_ne (by omega)).trans a41_11
  have a42_12 : (hup g41 (sz + 14) (.inl (0, 1201, .inl (fun _ => 0)))) (sz + 12) = some (.inl (2, 4804, .inr (.inl (fun _ => 0)))) := (hup_ne (by omega)).trans a41_12
  have a42_13 : (hup g41 (sz + 14) (.inl (0, 1201, .inl (fun _ => 0)))) (sz + 13) = some (.inl (0, 1201, .inl (fun _ => 0))) := (hup_ne (by omega)).trans a41_13
  have a42_14 : (hup g41 (sz + 14) (.inl (0, 1201, .inl (fun _ => 0)))) (sz + 14) = some (.inl (0, 1201, .inl (fun _ => 0))) := hup_eq
  obtain ⟨g43, e43, o43, x43⟩ := put_step (k := 27) (v := .ref (sz + 14)) (fs' := [.ref (sz + 1), .int 0, .int 0, .int 0, .int 0, .ref (sz + 2), .ref (sz + 3), .int 0, .ref (sz + 4), .ref (sz + 5), .ref (sz + 6), .int 0, .ref (sz + 7), .int 0, .int 0, .int 0, .ref (sz + 8), .ref (sz + 9), .ref (sz + 10), .int 0, .int 0, .ref (sz + 11), .int 0, .int 0, .int 0, .ref (sz + 12), .ref (sz + 13), .ref (sz + 14), .null, .int 0, .int 0, .null, .null, .null, .null, .null, .int 0, .null, .null, .int 0, .long 0]) o42 (Nat.le_of_ble_eq_true rfl) rfl
  have b43 : ∀ b, b < sz → g43 b = g b := fun b hb => (x43 b (by omega)).trans (b42 b hb)
  have a43_1 : g43 (sz + 1) = some (.inl (1, 200, .inl (fun _ => 0))) := (x43 _ (by omega)).trans a42_1
  have a43_2 : g43 (sz + 2) = some (.inl (0, 180, .inl (fun _ => 0))) := (x43 _ (by omega)).trans a42_2
  have a43_3 : g43 (sz + 3) = some (.inl (0, 9, .inl (fun _ => 0))) := (x43 _ (by omega)).trans a42_3
  have a43_4 : g43 (sz + 4) = some (.inl (0, 448, .inl (fun _ => 0))) := (x43 _ (by omega)).trans a42_4
  have a43_5 : g43 (sz + 5) = some (.inl (0, 7, .inl (fun _ => 0))) := (x43 _ (by omega)).trans a42_5
  have a43_6 : g43 (sz + 6) = some (.inl (0, 7, .inl (fun _ => 0))) := (x43 _ (by omega)).trans a42_6
  have a43_7 : g43 (sz + 7) = some (.inl (1, 15, .inl (upd (upd (upd (upd (upd (upd (upd (upd (upd (upd (upd (upd (upd (upd (upd (fun _ => 0) 0 (vp_nar .byte 117)) 1 (vp_nar .byte 112)) 2 (vp_nar .byte 0)) 3 (vp_nar .byte 0)) 4 (vp_nar .byte 0)) 5 (vp_nar .byte 100)) 6 (vp_nar .byte 111)) 7 (vp_nar .byte 119)) 8 (vp_nar .byte 110)) 9 (vp_nar .byte 0)) 10 (vp_nar .byte 97)) 11 (vp_nar .byte 110)) 12 (vp_nar .byte 121)) 13 (vp_nar .byte 0)) 14 (vp_nar .byte 0)))) := (x43 _ (by omega)).trans a42_7
  have a43_8 : g43 (sz + 8) = some (.inl (0, 133, .inl (fun _ => 0))) := (x43 _ (by omega)).trans a42_8
  have a43_9 : g43 (sz + 9) = some (.inl (0, 133, .inl (fun _ => 0))) := (x43 _ (by omega)).trans a42_9
  have a43_10 : g43 (sz + 10) = some (.inl (0, 2660, .inl (fun _ => 0))) := (x43 _ (by omega)).trans a42_10
  have a43_11 : g43 (sz + 11) = some (.inl (0, 120, .inl (fun _ => 0))) := (x43 _ (by omega)).trans a42_11
  have a43_12 : g43 (sz + 12) = some (.inl (2, 4804, .inr (.inl (fun _ => 0)))) := (x43 _ (by omega)).trans a42_12
  have a43_13 : g43 (sz + 13) = some (.inl (0, 1201, .inl (fun _ => 0))) := (x43 _ (by omega)).trans a42_13
  have a43_14 : g43 (sz + 14) = some (.inl (0, 1201, .inl (fun _ => 0))) := (x43 _ (by omega)).trans a42_14
  have o44 : (hup g43 (sz + 15) (.inl (0, 1201, .inl (fun _ => 0)))) sz = some (.inr (9, [.ref (sz + 1), .int 0, .int 0, .int 0, .int 0, .ref (sz + 2), .ref (sz + 3), .int 0, .ref (sz + 4), .ref (sz + 5), .ref (sz + 6), .int 0, .ref (sz + 7), .int 0, .int 0, .int 0, .ref (sz + 8), .ref (sz + 9), .ref (sz + 10), .int 0, .int 0, .ref (sz + 11), .int 0, .int 0, .int 0, .ref (sz + 12), .ref (sz + 13), .ref (sz + 14), .null, .int 0, .int 0, .null, .null, .null, .null, .null, .int 0, .null, .null, .int 0, .long 0])) := (hup_ne (by omega)).trans o43
  have b44 : ∀ b, b < sz → (hup g43 (sz + 15) (.inl (0, 1201, .inl (fun _ => 0)))) b = g b := fun b hb => (hup_ne (by omega)).trans (b43 b hb)
  have a44_1 : (hup g43 (sz + 15) (.inl (0, 1201, .inl (fun _ => 0)))) (sz + 1) = some (.inl (1, 200, .inl (fun _ => 0))) := (hup_ne (by omega)).trans a43_1
  have a44_2 : (hup g43 (sz + 15) (.inl (0, 1201, .inl (fun _ => 0)))) (sz + 2) = some (.inl (0, 180, .inl (fun _ => 0))) := (hup_ne (by omega)).trans a43_2
  have a44_3 : (hup g43 (sz + 15) (.inl (0, 1201, .inl (fun _ => 0)))) (sz + 3) = some (.inl (0, 9, .inl (fun _ => 0))) := (hup_ne (by omega)).trans a43_3
  have a44_4 : (hup g43 (sz + 15) (.inl (0, 1201, .inl (fun _ => 0)))) (sz + 4) = some (.inl (0, 448, .inl (fun _ => 0))) := (hup_ne (by omega)).trans a43_4
  have a44_5 : (hup g43 (sz + 15) (.inl (0, 1201, .inl (fun _ => 0)))) (sz + 5) = some (.inl (0, 7, .inl (fun _ => 0))) := (hup_ne (by omega)).trans a43_5
  have a44_6 : (hup g43 (sz + 15) (.inl (0, 1201, .inl (fun _ => 0)))) (sz + 6) = some (.inl (0, 7, .inl (fun _ => 0))) := (hup_ne (by omega)).trans a43_6
  have a44_7 : (hup g43 (sz + 15) (.inl (0, 1201, .inl (fun _ => 0)))) (sz + 7) = some (.inl (1, 15, .inl (upd (upd (upd (upd (upd (upd (upd (upd (upd (upd (upd (upd (upd (upd (upd (fun _ => 0) 0 (vp_nar .byte 117)) 1 (vp_nar .byte 112)) 2 (vp_nar .byte 0)) 3 (vp_nar .byte 0)) 4 (vp_nar .byte 0)) 5 (vp_nar .byte 100)) 6 (vp_nar .byte 111)) 7 (vp_nar .byte 119)) 8 (vp_nar .byte 110)) 9 (vp_nar .byte 0)) 10 (vp_nar .byte 97)) 11 (vp_nar .byte 110)) 12 (vp_nar .byte 121)) 13 (vp_nar .byte 0)) 14 (vp_nar .byte 0)))) := (hup_ne (by omega)).trans a43_7
  have a44_8 : (hup g43 (sz + 15) (.inl (0, 1201, .inl (fun _ => 0)))) (sz + 8) = some (.inl (0, 133, .inl (fun _ => 0))) := (hup_ne (by omega)).trans a43_8
  have a44_9 : (hup g43 (sz + 15) (.inl (0, 1201, .inl (fun _ => 0)))) (sz + 9) = some (.inl (0, 133, .inl (fun _ => 0))) := (hup_ne (by omega)).trans a43_9
  have a44_10 : (hup g43 (sz + 15) (.inl (0, 1201, .inl (fun _ => 0)))) (sz + 10) = some (.inl (0, 2660, .inl (fun _ => 0))) := (hup_ne (by omega)).trans a43_10
  have a44_11 : (hup g43 (sz + 15) (.inl (0, 1201, .inl (fun _ => 0)))) (sz + 11) = some (.inl (0, 120, .inl (fun _ => 0))) := (hup_ne (by omega)).trans a43_11
  have a44_12 : (hup g43 (sz + 15) (.inl (0, 1201, .inl (fun _ => 0)))) (sz + 12) = some (.inl (2, 4804, .inr (.inl (fun _ => 0)))) := (hup_ne (by omega)).trans a43_12
  have a44_13 : (hup g43 (sz + 15) (.inl (0, 1201, .inl (fun _ => 0)))) (sz + 13) = some (.inl (0, 1201, .inl (fun _ => 0))) := (hup_ne (by omega)).trans a43_13
  have a44_14 : (hup g43 (sz + 15) (.inl (0, 1201, .inl (fun _ => 0)))) (sz + 14) = some (.inl (0, 1201, .inl (fun _ => 0))) := (hup_ne (by omega)).trans a43_14
  have a44_15 : (hup g43 (sz + 15) (.inl (0, 1201, .inl (fun _ => 0)))) (sz + 15) = some (.inl (0, 1201, .inl (fun _ => 0))) := hup_eq
  obtain ⟨g45, e45, o45, x45⟩ := put_step (k := 28) (v := .ref (sz + 15)) (fs' := [.ref (sz + 1), .int 0, .int 0, .int 0, .int 0, .ref (sz + 2), .ref (sz + 3), .int 0, .ref (sz + 4), .ref (sz + 5), .ref (sz + 6), .int 0, .ref (sz + 7), .int 0, .int 0, .int 0, .ref (sz + 8), .ref (sz + 9), .ref (sz + 10), .int 0, .int 0, .ref (sz + 11), .int 0, .int 0, .int 0, .ref (sz + 12), .ref (sz + 13), .ref (sz + 14), .ref (sz + 15), .int 0, .int 0, .null, .null, .null, .null, .null, .int 0, .null, .null, .int 0, .long 0]) o44 (Nat.le_of_ble_eq_true rfl) rfl
  have b45 : ∀ b, b < sz → g45 b = g b := fun b hb => (x45 b (by omega)).trans (b44 b hb)
  have a45_1 : g45 (sz + 1) = some (.inl (1, 200, .inl (fun _ => 0))) := (x45 _ (by omega)).trans a44_1
  have a45_2 : g45 (sz + 2) = some (.inl (0, 180, .inl (fun _ => 0))) := (x45 _ (by omega)).trans a44_2
  have a45_3 : g45 (sz + 3) = some (.inl (0, 9, .inl (fun _ => 0))) := (x45 _ (by omega)).trans a44_3
  have a45_4 : g45 (sz + 4) = some (.inl (0, 448, .inl (fun _ => 0))) := (x45 _ (by omega)).trans a44_4
  have a45_5 : g45 (sz + 5) = some (.inl (0, 7, .inl (fun _ => 0))) := (x45 _ (by omega)).trans a44_5
  have a45_6 : g45 (sz + 6) = some (.inl (0, 7, .inl (fun _ => 0))) := (x45 _ (by omega)).trans a44_6
  have a45_7 : g45 (sz + 7) = some (.inl (1, 15, .inl (upd (upd (upd (upd (upd (upd (upd (upd (upd (upd (upd (upd (upd (upd (upd (fun _ => 0) 0 (vp_nar .byte 117)) 1 (vp_nar .byte 112)) 2 (vp_nar .byte 0)) 3 (vp_nar .byte 0)) 4 (vp_nar .byte 0)) 5 (vp_nar .byte 100)) 6 (vp_nar .byte 111)) 7 (vp_nar .byte 119)) 8 (vp_nar .byte 110)) 9 (vp_nar .byte 0)) 10 (vp_nar .byte 97)) 11 (vp_nar .byte 110)) 12 (vp_nar .byte 121)) 13 (vp_nar .byte 0)) 14 (vp_nar .byte 0)))) := (x45 _ (by omega)).trans a44_7
  have a45_8 : g45 (sz + 8) = some (.inl (0, 133, .inl (fun _ => 0))) := (x45 _ (by omega)).trans a44_8
  have a45_9 : g45 (sz + 9) = some (.inl (0, 133, .inl (fun _ => 0))) := (x45 _ (by omega)).trans a44_9
  have a45_10 : g45 (sz + 10) = some (.inl (0, 2660, .inl (fun _ => 0))) := (x45 _ (by omega)).trans a44_10
  have a45_11 : g45 (sz + 11) = some (.inl (0, 120, .inl (fun _ => 0))) := (x45 _ (by omega)).trans a44_11
  have a45_12 : g45 (sz + 12) = some (.inl (2, 4804, .inr (.inl (fun _ => 0)))) := (x45 _ (by omega)).trans a44_12
  have a45_13 : g45 (sz + 13) = some (.inl (0, 1201, .inl (fun _ => 0))) := (x45 _ (by omega)).trans a44_13
  have a45_14 : g45 (sz + 14) = some (.inl (0, 1201, .inl (fun _ => 0))) := (x45 _ (by omega)).trans a44_14
  have a45_15 : g45 (sz + 15) = some (.inl (0, 1201, .inl (fun _ => 0))) := (x45 _ (by omega)).trans a44_15
  have o46 : (hup g45 (sz + 16) (.inl (0, 64, .inl (fun _ => 0)))) sz = some (.inr (9, [.ref (sz + 1), .int 0, .int 0, .int 0, .int 0, .ref (sz + 2), .ref (sz + 3), .int 0, .ref (sz + 4), .ref (sz + 5), .ref (sz + 6), .int 0, .ref (sz + 7), .int 0, .int 0, .int 0, .ref (sz + 8), .ref (sz + 9), .ref (sz + 10), .int 0, .int 0, .ref (sz + 11), .int 0, .int 0, .int 0, .ref (sz + 12), .ref (sz + 13), .ref (sz + 14), .ref (sz + 15), .int 0, .int 0, .null, .null, .null, .null, .null, .int 0, .null, .null, .int 0, .long 0])) := (hup_ne (by omega)).trans o45
  have b46 : ∀ b, b < sz → (hup g45 (sz + 16) (.inl (0, 64, .inl (fun _ => 0)))) b = g b := fun b hb => (hup_ne (by omega)).trans (b45 b hb)
  have a46_1 : (hup g45 (sz + 16) (.inl (0, 64, .inl (fun _ => 0)))) (sz + 1) = some (.inl (1, 200, .inl (fun _ => 0))) := (hup_ne (by omega)).trans a45_1
  have a46_2 : (hup g45 (sz + 16) (.inl (0, 64, .inl (fun _ => 0)))) (sz + 2) = some (.inl (0, 180, .inl (fun _ => 0))) := (hup_ne (by omega)).trans a45_2
  have a46_3 : (hup g45 (sz + 16) (.inl (0, 64, .inl (fun _ => 0)))) (sz + 3) = some (.inl (0, 9, .inl (fun _ => 0))) := (hup_ne (by omega)).trans a45_3
  have a46_4 : (hup g45 (sz + 16) (.inl (0, 64, .inl (fun _ => 0)))) (sz + 4) = some (.inl (0, 448, .inl (fun _ => 0))) := (hup_ne (by omega)).trans a45_4
  have a46_5 : (hup g45 (sz + 16) (.inl (0, 64, .inl (fun _ => 0)))) (sz + 5) = some (.inl (0, 7, .inl (fun _ => 0))) := (hup_ne (by omega)).trans a45_5
  have a46_6 : (hup g45 (sz + 16) (.inl (0, 64, .inl (fun _ => 0)))) (sz + 6) = some (.inl (0, 7, .inl (fun _ => 0))) := (hup_ne (by omega)).trans a45_6
  have a46_7 : (hup g45 (sz + 16) (.inl (0, 64, .inl (fun _ => 0)))) (sz + 7) = some (.inl (1, 15, .inl (upd (upd (upd (upd (upd (upd (upd (upd (upd (upd (upd (upd (upd (upd (upd (fun _ => 0) 0 (vp_nar .byte 117)) 1 (vp_nar .byte 112)) 2 (vp_nar .byte 0)) 3 (vp_nar .byte 0)) 4 (vp_nar .byte 0)) 5 (vp_nar .byte 100)) 6 (vp_nar .byte 111)) 7 (vp_nar .byte 119)) 8 (vp_nar .byte 110)) 9 (vp_nar .byte 0)) 10 (vp_nar .byte 97)) 11 (vp_nar .byte 110)) 12 (vp_nar .byte 121)) 13 (vp_nar .byte 0)) 14 (vp_nar .byte 0)))) := (hup_ne (by omega)).trans a45_7
  have a46_8 : (hup g45 (sz + 16) (.inl (0, 64, .inl (fun _ => 0)))) (sz + 8) = some (.inl (0, 133, .inl (fun _ => 0))) := (hup_ne (by omega)).trans a45_8
  have a46_9 : (hup g45 (sz + 16) (.inl (0, 64, .inl (fun _ => 0)))) (sz + 9) = some (.inl (0, 133, .inl (fun _ => 0))) := (hup_ne (by omega)).trans a45_9
  have a46_10 : (hup g45 (sz + 16) (.inl (0, 64, .inl (fun _ => 0)))) (sz + 10) = some (.inl (0, 2660, .inl (fun _ => 0))) := (hup_ne (by omega)).trans a45_10
  have a46_11 : (hup g45 (sz + 16) (.inl (0, 64, .inl (fun _ => 0)))) (sz + 11) = some (.inl (0, 120, .inl (fun _ => 0))) := (hup_ne (by omega)).trans a45_11
  have a46_12 : (hup g45 (sz + 16) (.inl (0, 64, .inl (fun _ => 0)))) (sz + 12) = some (.inl (2, 4804, .inr (.inl (fun _ => 0)))) := (hup_ne (by omega)).trans a45_12
  have a46_13 : (hup g45 (sz + 16) (.inl (0, 64, .inl (fun _ => 0)))) (sz + 13) = some (.inl (0, 1201, .inl (fun _ => 0))) := (hup_ne (by omega)).trans a45_13
  have a46_14 : (hup g45 (sz + 16) (.inl (0, 64, .inl (fun _ => 0)))) (sz + 14) = some (.inl (0, 1201, .inl (fun _ => 0))) := (hup_ne (by omega)).trans a45_14
  have a46_15 : (hup g45 (sz + 16) (.inl (0, 64, .inl (fun _ => 0)))) (sz + 15) = some (.inl (0, 1201, .inl (fun _ => 0))) := (hup_ne (by omega)).trans a45_15
  have a46_16 : (hup g45 (sz + 16) (.inl (0, 64, .inl (fun _ => 0)))) (sz + 16) = some (.inl (0, 64, .inl (fun _ => 0))) := hup_eq
  obtain ⟨g47, e47, o47, x47⟩ := put_step (k := 31) (v := .ref (sz + 16)) (fs' := [.ref (sz + 1), .int 0, .int 0, .int 0, .int 0, .ref (sz + 2), .ref (sz + 3), .int 0, .ref (sz + 4), .ref (sz + 5), .ref (sz + 6), .int 0, .ref (sz + 7), .int 0, .int 0, .int 0, .ref (sz + 8), .ref (sz + 9), .ref (sz + 10), .int 0, .int 0, .ref (sz + 11), .int 0, .int 0, .int 0, .ref (sz + 12), .ref (sz + 13), .ref (sz + 14), .ref (sz + 15), .int 0, .int 0, .ref (sz + 16), .null, .null, .null, .null, .int 0, .null, .null, .int 0, .long 0]) o46 (Nat.le_of_ble_eq_true rfl) rfl
  have b47 : ∀ b, b < sz → g47 b = g b := fun b hb => (x47 b (by omega)).trans (b46 b hb)
  have a47_1 : g47 (sz + 1) = some (.inl (1, 200, .inl (fun _ => 0))) := (x47 _ (by omega)).trans a46_1
  have a47_2 : g47 (sz + 2) = some (.inl (0, 180, .inl (fun _ => 0))) := (x47 _ (by omega)).trans a46_2
  have a47_3 : g47 (sz + 3) = some (.inl (0, 9, .inl (fun _ => 0))) := (x47 _ (by omega)).trans a46_3
  have a47_4 : g47 (sz + 4) = some (.inl (0, 448, .inl (fun _ => 0))) := (x47 _ (by omega)).trans a46_4
  have a47_5 : g47 (sz + 5) = some (.inl (0, 7, .inl (fun _ => 0))) := (x47 _ (by omega)).trans a46_5
  have a47_6 : g47 (sz + 6) = some (.inl (0, 7, .inl (fun _ => 0))) := (x47 _ (by omega)).trans a46_6
  have a47_7 : g47 (sz + 7) = some (.inl (1, 15, .inl (upd (upd (upd (upd (upd (upd (upd (upd (upd (upd (upd (upd (upd (upd (upd (fun _ => 0) 0 (vp_nar .byte 117)) 1 (vp_nar .byte 112)) 2 (vp_nar .byte 0)) 3 (vp_nar .byte 0)) 4 (vp_nar .byte 0)) 5 (vp_nar .byte 100)) 6 (vp_nar .byte 111)) 7 (vp_nar .byte 119)) 8 (vp_nar .byte 110)) 9 (vp_nar .byte 0)) 10 (vp_nar .byte 97)) 11 (vp_nar .byte 110)) 12 (vp_nar .byte 121)) 13 (vp_nar .byte 0)) 14 (vp_nar .byte 0)))) := (x47 _ (by omega)).trans a46_7
  have a47_8 : g47 (sz + 8) = some (.inl (0, 133, .inl (fun _ => 0))) := (x47 _ (by omega)).trans a46_8
  have a47_9 : g47 (sz + 9) = some (.inl (0, 133, .inl (fun _ => 0))) := (x47 _ (by omega)).trans a46_9
  have a47_10 : g47 (sz + 10) = some (.inl (0, 2660, .inl (fun _ => 0))) := (x47 _ (by omega)).trans a46_10
  have a47_11 : g47 (sz + 11) = some (.inl (0, 120, .inl (fun _ => 0))) := (x47 _ (by omega)).trans a46_11
  have a47_12 : g47 (sz + 12) = some (.inl (2, 4804, .inr (.inl (fun _ => 0)))) := (x47 _ (by omega)).trans a46_12
  have a47_13 : g47 (sz + 13) = some (.inl (0, 1201, .inl (fun _ => 0))) := (x47 _ (by omega)).trans a46_13
  have a47_14 : g47 (sz + 14) = some (.inl (0, 1201, .inl (fun _ => 0))) := (x47 _ (by omega)).trans a46_14
  have a47_15 : g47 (sz + 15) = some (.inl (0, 1201, .inl (fun _ => 0))) := (x47 _ (by omega)).trans a46_15
  have a47_16 : g47 (sz + 16) = some (.inl (0, 64, .inl (fun _ => 0))) := (x47 _ (by omega)).trans a46_16
  have o48 : (hup g47 (sz + 17) (.inl (0, 64, .inl (fun _ => 0)))) sz = some (.inr (9, [.ref (sz + 1), .int 0, .int 0, .int 0, .int 0, .ref (sz + 2), .ref (sz + 3), .int 0, .ref (sz + 4), .ref (sz + 5), .ref (sz + 6), .int 0, .ref (sz + 7), .int 0, .int 0, .int 0, .ref (sz + 8), .ref (sz + 9), .ref (sz + 10), .int 0, .int 0, .ref (sz + 11), .int 0, .int 0, .int 0, .ref (sz + 12), .ref (sz + 13), .ref (sz + 14), .ref (sz + 15), .int 0, .int 0, .ref (sz + 16), .null, .null, .null, .null, .int 0, .null, .null, .int 0, .long 0])) := (hup_ne (by omega)).trans o47
  have b48 : ∀ b, b < sz → (hup g47 (sz + 17) (.inl (0, 64, .inl (fun _ => 0)))) b = g b := fun b hb => (hup_ne (by omega)).trans (b47 b hb)
  have a48_1 : (hup g47 (sz + 17) (.inl (0, 64, .inl (fun _ => 0)))) (sz + 1) = some (.inl (1, 200, .inl (fun _ => 0))) := (hup_ne (by omega)).trans a47_1
  have a48_2 : (hup g47 (sz + 17) (.inl (0, 64, .inl (fun _ => 0)))) (sz + 2) = some (.inl (0, 180, .inl (fun _ => 0))) := (hup_ne (by omega)).trans a47_2
  have a48_3 : (hup g47 (sz + 17) (.inl (0, 64, .inl (fun _ => 0)))) (sz + 3) = some (.inl (0, 9, .inl (fun _ => 0))) := (hup_ne (by omega)).trans a47_3
  have a48_4 : (hup g47 (sz + 17) (.inl (0, 64, .inl (fun _ => 0)))) (sz + 4) = some (.inl (0, 448, .inl (fun _ => 0))) := (hup_ne (by omega)).trans a47_4
  have a48_5 : (hup g47 (sz + 17) (.inl (0, 64, .inl (fun _ => 0)))) (sz + 5) = some (.inl (0, 7, .inl (fun _ => 0))) := (hup_ne (by omega)).trans a47_5
  have a48_6 : (hup g47 (sz + 17) (.inl (0, 64, .inl (fun _ => 0)))) (sz + 6) = some (.inl (0, 7, .inl (fun _ => 0))) := (hup_ne (by omega)).trans a47_6
  have a48_7 : (hup g47 (sz + 17) (.inl (0, 64, .inl (fun _ => 0)))) (sz + 7) = some (.inl (1, 15, .inl (upd (upd (upd (upd (upd (upd (upd (upd (upd (upd (upd (upd (upd (upd (upd (fun _ => 0) 0 (vp_nar .byte 117)) 1 (vp_nar .byte 112)) 2 (vp_nar .byte 0)) 3 (vp_nar .byte 0)) 4 (vp_nar .byte 0)) 5 (vp_nar .byte 100)) 6 (vp_nar .byte 111)) 7 (vp_nar .byte 119)) 8 (vp_nar .byte 110)) 9 (vp_nar .byte 0)) 10 (vp_nar .byte 97)) 11 (vp_nar .byte 110)) 12 (vp_nar .byte 121)) 13 (vp_nar .byte 0)) 14 (vp_nar .byte 0)))) := (hup_ne (by omega)).trans a47_7
  have a48_8 : (hup g47 (sz + 17) (.inl (0, 64, .inl (fun _ => 0)))) (sz + 8) = some (.inl (0, 133, .inl (fun _ => 0))) := (hup_ne (by omega)).trans a47_8
  have a48_9 : (hup g47 (sz + 17) (.inl (0, 64, .inl (fun _ => 0)))) (sz + 9) = some (.inl (0, 133, .inl (fun _ => 0))) := (hup_ne (by omega)).trans a47_9
  have a48_10 : (hup g47 (sz + 17) (.inl (0, 64, .inl (fun _ => 0)))) (sz + 10) = some (.inl (0, 2660, .inl (fun _ => 0))) := (hup_ne (by omega)).trans a47_10
  have a48_11 : (hup g47 (sz + 17) (.inl (0, 64, .inl (fun _ => 0)))) (sz + 11) = some (.inl (0, 120, .inl (fun _ => 0))) := (hup_ne (by omega)).trans a47_11
  have a48_12 : (hup g47 (sz + 17) (.inl (0, 64, .inl (fun _ => 0)))) (sz + 12) = some (.inl (2, 4804, .inr (.inl (fun _ => 0)))) := (hup_ne (by omega)).trans a47_12
  have a48_13 : (hup g47 (sz + 17) (.inl (0, 64, .inl (fun _ => 0)))) (sz + 13) = some (.inl (0, 1201, .inl (fun _ => 0))) := (hup_ne (by omega)).trans a47_13
  have a48_14 : (hup g47 (sz + 17) (.inl (0, 64, .inl (fun _ => 0)))) (sz + 14) = some (.inl (0, 1201, .inl (fun _ => 0))) := (hup_ne (by omega)).trans a47_14
  have a48_15 : (hup g47 (sz + 17) (.inl (0, 64, .inl (fun _ => 0)))) (sz + 15) = some (.inl (0, 1201, .inl (fun _ => 0))) := (hup_ne (by omega)).trans a47_15
  have a48_16 : (hup g47 (sz + 17) (.inl (0, 64, .inl (fun _ => 0)))) (sz + 16) = some (.inl (0, 64, .inl (fun _ => 0))) := (hup_ne (by omega)).trans a47_16
  have a48_17 : (hup g47 (sz + 17) (.inl (0, 64, .inl (fun _ => 0)))) (sz + 17) = some (.inl (0, 64, .inl (fun _ => 0))) := hup_eq
  obtain ⟨g49, e49, o49, x49⟩ := put_step (k := 32) (v := .ref (sz + 17)) (fs' := [.ref (sz + 1), .int 0, .int 0, .int 0, .int 0, .ref (sz + 2), .ref (sz + 3), .int 0, .ref (sz + 4), .ref (sz + 5), .ref (sz + 6), .int 0, .ref (sz + 7), .int 0, .int 0, .int 0, .ref (sz + 8), .ref (sz + 9), .ref (sz + 10), .int 0, .int 0, .ref (sz + 11), .int 0, .int 0, .int 0, .ref (sz + 12), .ref (sz + 13), .ref (sz + 14), .ref (sz + 15), .int 0, .int 0, .ref (sz + 16), .ref (sz + 17), .null, .null, .null, .int 0, .null, .null, .int 0, .long 0]) o48 (Nat.le_of_ble_eq_true rfl) rfl
  have b49 : ∀ b, b < sz → g49 b = g b := fun b hb => (x49 b (by omega)).trans (b48 b hb)
  have a49_1 : g49 (sz + 1) = some (.inl (1, 200, .inl (fun _ => 0))) := (x49 _ (by omega)).trans a48_1
  have a49_2 : g49 (sz + 2) = some (.inl (0, 180, .inl (fun _ => 0))) := (x49 _ (by omega)).trans a48_2
  have a49_3 : g49 (sz + 3) = some (.inl (0, 9, .inl (fun _ => 0))) := (x49 _ (by omega)).trans a48_3
  have a49_4 : g49 (sz + 4) = some (.inl (0, 448, .inl (fun _ => 0))) := (x49 _ (by omega)).trans a48_4
  have a49_5 : g49 (sz + 5) = some (.inl (0, 7, .inl (fun _ => 0))) := (x49 _ (by omega)).trans a48_5
  have a49_6 : g49 (sz + 6) = some (.inl (0, 7, .inl (fun _ => 0))) := (x49 _ (by omega)).trans a48_6
  have a49_7 : g49 (sz + 7) = some (.inl (1, 15, .inl (upd (upd (upd (upd (upd (upd (upd (upd (upd (upd (upd (upd (upd (upd (upd (fun _ => 0) 0 (vp_nar .byte 117)) 1 (vp_nar .byte 112)) 2 (vp_nar .byte 0)) 3 (vp_nar .byte 0)) 4 (vp_nar .byte 0)) 5 (vp_nar .byte 100)) 6 (vp_nar .byte 111)) 7 (vp_nar .byte 119)) 8 (vp_nar .byte 110)) 9 (vp_nar .byte 0)) 10 (vp_nar .byte 97)) 11 (vp_nar .byte 110)) 12 (vp_nar .byte 121)) 13 (vp_nar .byte 0)) 14 (vp_nar .byte 0)))) := (x49 _ (by omega)).trans a48_7
  have a49_8 : g49 (sz + 8) = some (.inl (0, 133, .inl (fun _ => 0))) := (x49 _ (by omega)).trans a48_8
  have a49_9 : g49 (sz + 9) = some (.inl (0, 133, .inl (fun _ => 0))) := (x49 _ (by omega)).trans a48_9
  have a49_10 : g49 (sz + 10) = some (.inl (0, 2660, .inl (fun _ => 0))) := (x49 _ (by omega)).trans a48_10
  have a49_11 : g49 (sz + 11) = some (.inl (0, 120, .inl (fun _ => 0))) := (x49 _ (by omega)).trans a48_11
  have a49_12 : g49 (sz + 12) = some (.inl (2, 4804, .inr (.inl (fun _ => 0)))) := (x49 _ (by omega)).trans a48_12
  have a49_13 : g49 (sz + 13) = some (.inl (0, 1201, .inl (fun _ => 0))) := (x49 _ (by omega)).trans a48_13
  have a49_14 : g49 (sz + 14) = some (.inl (0, 1201, .inl (fun _ => 0))) := (x49 _ (by omega)).trans a48_14
  have a49_15 : g49 (sz + 15) = some (.inl (0, 1201, .inl (fun _ => 0))) := (x49 _ (by omega)).trans a48_15
  have a49_16 : g49 (sz + 16) = some (.inl (0, 64, .inl (fun _ => 0))) := (x49 _ (by omega)).trans a48_16
  have a49_17 : g49 (sz + 17) = some (.inl (0, 64, .inl (fun _ => 0))) := (x49 _ (by omega)).trans a48_17
  have o50 : (hup g49 (sz + 18) (.inl (2, 4, .inr (.inl (fun _ => 0))))) sz = some (.inr (9, [.ref (sz + 1), .int 0, .int 0, .int 0, .int 0, .ref (sz + 2), .ref (sz + 3), .int 0, .ref (sz + 4), .ref (sz + 5), .ref (sz + 6), .int 0, .ref (sz + 7), .int 0, .int 0, .int 0, .ref (sz + 8), .ref (sz + 9), .ref (sz + 10), .int 0, .int 0, .ref (sz + 11), .int 0, .int 0, .int 0, .ref (sz + 12), .ref (sz + 13), .ref (sz + 14), .ref (sz + 15), .int 0, .int 0, .ref (sz + 16), .ref (sz + 17), .null, .null, .null, .int 0, .null, .null, .int 0, .long 0])) := (hup_ne (by omega)).trans o49
  have b50 : ∀ b, b < sz → (hup g49 (sz + 18) (.inl (2, 4, .inr (.inl (fun _ => 0))))) b = g b := fun b hb => (hup_ne (by omega)).trans (b49 b hb)
  have a50_1 : (hup g49 (sz + 18) (.inl (2, 4, .inr (.inl (fun _ => 0))))) (sz + 1) = some (.inl (1, 200, .inl (fun _ => 0))) := (hup_ne (by omega)).trans a49_1
  have a50_2 : (hup g49 (sz + 18) (.inl (2, 4, .inr (.inl (fun _ => 0))))) (sz + 2) = some (.inl (0, 180, .inl (fun _ => 0))) := (hup_ne (by omega)).trans a49_2
  have a50_3 : (hup g49 (sz + 18) (.inl (2, 4, .inr (.inl (fun _ => 0))))) (sz + 3) = some (.inl (0, 9, .inl (fun _ => 0))) := (hup_ne (by omega)).trans a49_3
  have a50_4 : (hup g49 (sz + 18) (.inl (2, 4, .inr (.inl (fun _ => 0))))) (sz + 4) = some (.inl (0, 448, .inl (fun _ => 0))) := (hup_ne (by omega)).trans a49_4
  have a50_5 : (hup g49 (sz + 18) (.inl (2, 4, .inr (.inl (fun _ => 0))))) (sz + 5) = some (.inl (0, 7, .inl (fun _ => 0))) := (hup_ne (by omega)).trans a49_5
  have a50_6 : (hup g49 (sz + 18) (.inl (2, 4, .inr (.inl (fun _ => 0))))) (sz + 6) = some (.inl (0, 7, .inl (fun _ => 0))) := (hup_ne (by omega)).trans a49_6
  have a50_7 : (hup g49 (sz + 18) (.inl (2, 4, .inr (.inl (fun _ => 0))))) (sz + 7) = some (.inl (1, 15, .inl (upd (upd (upd (upd (upd (upd (upd (upd (upd (upd (upd (upd (upd (upd (upd (fun _ => 0) 0 (vp_nar .byte 117)) 1 (vp_nar .byte 112)) 2 (vp_nar .byte 0)) 3 (vp_nar .byte 0)) 4 (vp_nar .byte 0)) 5 (vp_nar .byte 100)) 6 (vp_nar .byte 111)) 7 (vp_nar .byte 119)) 8 (vp_nar .byte 110)) 9 (vp_nar .byte 0)) 10 (vp_nar .byte 97)) 11 (vp_nar .byte 110)) 12 (vp_nar .byte 121)) 13 (vp_nar .byte 0)) 14 (vp_nar .byte 0)))) := (hup_ne (by omega)).trans a49_7
  have a50_8 : (hup g49 (sz + 18) (.inl (2, 4, .inr (.inl (fun _ => 0))))) (sz + 8) = some (.inl (0, 133, .inl (fun _ => 0))) := (hup_ne (by omega)).trans a49_8
  have a50_9 : (hup g49 (sz + 18) (.inl (2, 4, .inr (.inl (fun _ => 0))))) (sz + 9) = some (.inl (0, 133, .inl (fun _ => 0))) := (hup_ne (by omega)).trans a49_9
  have a50_10 : (hup g49 (sz + 18) (.inl (2, 4, .inr (.inl (fun _ => 0))))) (sz + 10) = some (.inl (0, 2660, .inl (fun _ => 0))) := (hup_ne (by omega)).trans a49_10
  have a50_11 : (hup g49 (sz + 18) (.inl (2, 4, .inr (.inl (fun _ => 0))))) (sz + 11) = some (.inl (0, 120, .inl (fun _ => 0))) := (hup_ne (by omega)).trans a49_11
  have a50_12 : (hup g49 (sz + 18) (.inl (2, 4, .inr (.inl (fun _ => 0))))) (sz + 12) = some (.inl (2, 4804, .inr (.inl (fun _ => 0)))) := (hup_ne (by omega)).trans a49_12
  have a50_13 : (hup g49 (sz + 18) (.inl (2, 4, .inr (.inl (fun _ => 0))))) (sz + 13) = some (.inl (0, 1201, .inl (fun _ => 0))) := (hup_ne (by omega)).trans a49_13
  have a50_14 : (hup g49 (sz + 18) (.inl (2, 4, .inr (.inl (fun _ => 0))))) (sz + 14) = some (.inl (0, 1201, .inl (fun _ => 0))) := (hup_ne (by omega)).trans a49_14
  have a50_15 : (hup g49 (sz + 18) (.inl (2, 4, .inr (.inl (fun _ => 0))))) (sz + 15) = some (.inl (0, 1201, .inl (fun _ => 0))) := (hup_ne (by omega)).trans a49_15
  have a50_16 : (hup g49 (sz + 18) (.inl (2, 4, .inr (.inl (fun _ => 0))))) (sz + 16) = some (.inl (0, 64, .inl (fun _ => 0))) := (hup_ne (by omega)).trans a49_16
  have a50_17 : (hup g49 (sz + 18) (.inl (2, 4, .inr (.inl (fun _ => 0))))) (sz + 17) = some (.inl (0, 64, .inl (fun _ => 0))) := (hup_ne (by omega)).trans a49_17
  have a50_18 : (hup g49 (sz + 18) (.inl (2, 4, .inr (.inl (fun _ => 0))))) (sz + 18) = some (.inl (2, 4, .inr (.inl (fun _ => 0)))) := hup_eq
  obtain ⟨g51, e51, o51, x51⟩ := put_step (k := 33) (v := .ref (sz + 18)) (fs' := [.ref (sz + 1), .int 0, .int 0, .int 0, .int 0, .ref (sz + 2), .ref (sz + 3), .int 0, .ref (sz + 4), .ref (sz + 5), .ref (sz + 6), .int 0, .ref (sz + 7), .int 0, .int 0, .int 0, .ref (sz + 8), .ref (sz + 9), .ref (sz + 10), .int 0, .int 0, .ref (sz + 11), .int 0, .int 0, .int 0, .ref (sz + 12), .ref (sz + 13), .ref (sz + 14), .ref (sz + 15), .int 0, .int 0, .ref (sz + 16), .ref (sz + 17), .ref (sz + 18), .null, .null, .int 0, .null, .null, .int 0, .long 0]) o50 (Nat.le_of_ble_eq_true rfl) rfl
  have b51 : ∀ b, b < sz → g51 b = g b := fun b hb => (x51 b (by omega)).trans (b50 b hb)
  have a51_1 : g51 (sz + 1) = some (.inl (1, 200, .inl (fun _ => 0))) := (x51 _ (by omega)).trans a50_1
  have a51_2 : g51 (sz + 2) = some (.inl (0, 180, .inl (fun _ => 0))) := (x51 _ (by omega)).trans a50_2
  have a51_3 : g51 (sz + 3) = some (.inl (0, 9, .inl (fun _ => 0))) := (x51 _ (by omega)).trans a50_3
  have a51_4 : g51 (sz + 4) = some (.inl (0, 448, .inl (fun _ => 0))) := (x51 _ (by omega)).trans a50_4
  have a51_5 : g51 (sz + 5) = some (.inl (0, 7, .inl (fun _ => 0))) := (x51 _ (by omega)).trans a50_5
  have a51_6 : g51 (sz + 6) = some (.inl (0, 7, .inl (fun _ => 0))) := (x51 _ (by omega)).trans a50_6
  have a51_7 : g51 (sz + 7) = some (.inl (1, 15, .inl (upd (upd (upd (upd (upd (upd (upd (upd (upd (upd (upd (upd (upd (upd (upd (fun _ => 0) 0 (vp_nar .byte 117)) 1 (vp_nar .byte 112)) 2 (vp_nar .byte 0)) 3 (vp_nar .byte 0)) 4 (vp_nar .byte 0)) 5 (vp_nar .byte 100)) 6 (vp_nar .byte 111)) 7 (vp_nar .byte 119)) 8 (vp_nar .byte 110)) 9 (vp_nar .byte 0)) 10 (vp_nar .byte 97)) 11 (vp_nar .byte 110)) 12 (vp_nar .byte 121)) 13 (vp_nar .byte 0)) 14 (vp_nar .byte 0)))) := (x51 _ (by omega)).trans a50_7
  have a51_8 : g51 (sz + 8) = some (.inl (0, 133, .inl (fun _ => 0))) := (x51 _ (by omega)).trans a50_8
  have a51_9 : g51 (sz + 9) = some (.inl (0, 133, .inl (fun _ => 0))) := (x51 _ (by omega)).trans a50_9
  have a51_10 : g51 (sz + 10) = some (.inl (0, 2660, .inl (fun _ => 0))) := (x51 _ (by omega)).trans a50_10
  have a51_11 : g51 (sz + 11) = some (.inl (0, 120, .inl (fun _ => 0))) := (x51 _ (by omega)).trans a50_11
  have a51_12 : g51 (sz + 12) = some (.inl (2, 4804, .inr (.inl (fun _ => 0)))) := (x51 _ (by omega)).trans a50_12
  have a51_13 : g51 (sz + 13) = some (.inl (0, 1201, .inl (fun _ => 0))) := (x51 _ (by omega)).trans a50_13
  have a51_14 : g51 (sz + 14) = some (.inl (0, 1201, .inl (fun _ => 0))) := (x51 _ (by omega)).trans a50_14
  have a51_15 : g51 (sz + 15) = some (.inl (0, 1201, .inl (fun _ => 0))) := (x51 _ (by omega)).trans a50_15
  have a51_16 : g51 (sz + 16) = some (.inl (0, 64, .inl (fun _ => 0))) := (x51 _ (by omega)).trans a50_16
  have a51_17 : g51 (sz + 17) = some (.inl (0, 64, .inl (fun _ => 0))) := (x51 _ (by omega)).trans a50_17
  have a51_18 : g51 (sz + 18) = some (.inl (2, 4, .inr (.inl (fun _ => 0)))) := (x51 _ (by omega)).trans a50_18
  have o52 : (hup g51 (sz + 19) (.inl (0, 10, .inl (fun _ => 0)))) sz = some (.inr (9, [.ref (sz + 1), .int 0, .int 0, .int 0, .int 0, .ref (sz + 2), .ref (sz + 3), .int 0, .ref (sz + 4), .ref (sz + 5), .ref (sz + 6), .int 0, .ref (sz + 7), .int 0, .int 0, .int 0, .ref (sz + 8), .ref (sz + 9), .ref (sz + 10), .int 0, .int 0, .ref (sz + 11), .int 0, .int 0, .int 0, .ref (sz + 12), .ref (sz + 13), .ref (sz + 14), .ref (sz + 15), .int 0, .int 0, .ref (sz + 16), .ref (sz + 17), .ref (sz + 18), .null, .null, .int 0, .null, .null, .int 0, .long 0])) := (hup_ne (by omega)).trans o51
  have b52 : ∀ b, b < sz → (hup g51 (sz + 19) (.inl (0, 10, .inl (fun _ => 0)))) b = g b := fun b hb => (hup_ne (by omega)).trans (b51 b hb)
  have a52_1 : (hup g51 (sz + 19) (.inl (0, 10, .inl (fun _ => 0)))) (sz + 1) = some (.inl (1, 200, .inl (fun _ => 0))) := (hup_ne (by omega)).trans a51_1
  have a52_2 : (hup g51 (sz + 19) (.inl (0, 10, .inl (fun _ => 0)))) (sz + 2) = some (.inl (0, 180, .inl (fun _ => 0))) := (hup_ne (by omega)).trans a51_2
  have a52_3 : (hup g51 (sz + 19) (.inl (0, 10, .inl (fun _ => 0)))) (sz + 3) = some (.inl (0, 9, .inl (fun _ => 0))) := (hup_ne (by omega)).trans a51_3
  have a52_4 : (hup g51 (sz + 19) (.inl (0, 10, .inl (fun _ => 0)))) (sz + 4) = some (.inl (0, 448, .inl (fun _ => 0))) := (hup_ne (by omega)).trans a51_4
  have a52_5 : (hup g51 (sz + 19) (.inl (0, 10, .inl (fun _ => 0)))) (sz + 5) = some (.inl (0, 7, .inl (fun _ => 0))) := (hup_ne (by omega)).trans a51_5
  have a52_6 : (hup g51 (sz + 19) (.inl (0, 10, .inl (fun _ => 0)))) (sz + 6) = some (.inl (0, 7, .inl (fun _ => 0))) := (hup_ne (by omega)).trans a51_6
  have a52_7 : (hup g51 (sz + 19) (.inl (0, 10, .inl (fun _ => 0)))) (sz + 7) = some (.inl (1, 15, .inl (upd (upd (upd (upd (upd (upd (upd (upd (upd (upd (upd (upd (upd (upd (upd (fun _ => 0) 0 (vp_nar .byte 117)) 1 (vp_nar .byte 112)) 2 (vp_nar .byte 0)) 3 (vp_nar .byte 0)) 4 (vp_nar .byte 0)) 5 (vp_nar .byte 100)) 6 (vp_nar .byte 111)) 7 (vp_nar .byte 119)) 8 (vp_nar .byte 110)) 9 (vp_nar .byte 0)) 10 (vp_nar .byte 97)) 11 (vp_nar .byte 110)) 12 (vp_nar .byte 121)) 13 (vp_nar .byte 0)) 14 (vp_nar .byte 0)))) := (hup_ne (by omega)).trans a51_7
  have a52_8 : (hup g51 (sz + 19) (.inl (0, 10, .inl (fun _ => 0)))) (sz + 8) = some (.inl (0, 133, .inl (fun _ => 0))) := (hup_ne (by omega)).trans a51_8
  have a52_9 : (hup g51 (sz + 19) (.inl (0, 10, .inl (fun _ => 0)))) (sz + 9) = some (.inl (0, 133, .inl (fun _ => 0))) := (hup_ne (by omega)).trans a51_9
  have a52_10 : (hup g51 (sz + 19) (.inl (0, 10, .inl (fun _ => 0)))) (sz + 10) = some (.inl (0, 2660, .inl (fun _ => 0))) := (hup_ne (by omega)).trans a51_10
  have a52_11 : (hup g51 (sz + 19) (.inl (0, 10, .inl (fun _ => 0)))) (sz + 11) = some (.inl (0, 120, .inl (fun _ => 0))) := (hup_ne (by omega)).trans a51_11
  have a52_12 : (hup g51 (sz + 19) (.inl (0, 10, .inl (fun _ => 0)))) (sz + 12) = some (.inl (2, 4804, .inr (.inl (fun _ => 0)))) := (hup_ne (by omega)).trans a51_12
  have a52_13 : (hup g51 (sz + 19) (.inl (0, 10, .inl (fun _ => 0)))) (sz + 13) = some (.inl (0, 1201, .inl (fun _ => 0))) := (hup_ne (by omega)).trans a51_13
  have a52_14 : (hup g51 (sz + 19) (.inl (0, 10, .inl (fun _ => 0)))) (sz + 14) = some (.inl (0, 1201, .inl (fun _ => 0))) := (hup_ne (by omega)).trans a51_14
  have a52_15 : (hup g51 (sz + 19) (.inl (0, 10, .inl (fun _ => 0)))) (sz + 15) = some (.inl (0, 1201, .inl (fun _ => 0))) := (hup_ne (by omega)).trans a51_15
  have a52_16 : (hup g51 (sz + 19) (.inl (0, 10, .inl (fun _ => 0)))) (sz + 16) = some (.inl (0, 64, .inl (fun _ => 0))) := (hup_ne (by omega)).trans a51_16
  have a52_17 : (hup g51 (sz + 19) (.inl (0, 10, .inl (fun _ => 0)))) (sz + 17) = some (.inl (0, 64, .inl (fun _ => 0))) := (hup_ne (by omega)).trans a51_17
  have a52_18 : (hup g51 (sz + 19) (.inl (0, 10, .inl (fun _ => 0)))) (sz + 18) = some (.inl (2, 4, .inr (.inl (fun _ => 0)))) := (hup_ne (by omega)).trans a51_18
  have a52_19 : (hup g51 (sz + 19) (.inl (0, 10, .inl (fun _ => 0)))) (sz + 19) = some (.inl (0, 10, .inl (fun _ => 0))) := hup_eq
  obtain ⟨g53, e53, o53, x53⟩ := put_step (k := 34) (v := .ref (sz + 19)) (fs' := [.ref (sz + 1), .int 0, .int 0, .int 0, .int 0, .ref (sz + 2), .ref (sz + 3), .int 0, .ref (sz + 4), .ref (sz + 5), .ref (sz + 6), .int 0, .ref (sz + 7), .int 0, .int 0, .int 0, .ref (sz + 8), .ref (sz + 9), .ref (sz + 10), .int 0, .int 0, .ref (sz + 11), .int 0, .int 0, .int 0, .ref (sz + 12), .ref (sz + 13), .ref (sz + 14), .ref (sz + 15), .int 0, .int 0, .ref (sz + 16), .ref (sz + 17), .ref (sz + 18), .ref (sz + 19), .null, .int 0, .null, .null, .int 0, .long 0]) o52 (Nat.le_of_ble_eq_true rfl) rfl
  have b53 : ∀ b, b < sz → g53 b = g b := fun b hb => (x53 b (by omega)).trans (b52 b hb)
  have a53_1 : g53 (sz + 1) = some (.inl (1, 200, .inl (fun _ => 0))) := (x53 _ (by omega)).trans a52_1
  have a53_2 : g53 (sz + 2) = some (.inl (0, 180, .inl (fun _ => 0))) := (x53 _ (by omega)).trans a52_2
  have a53_3 : g53 (sz + 3) = some (.inl (0, 9, .inl (fun _ => 0))) := (x53 _ (by omega)).trans a52_3
  have a53_4 : g53 (sz + 4) = some (.inl (0, 448, .inl (fun _ => 0))) := (x53 _ (by omega)).trans a52_4
  have a53_5 : g53 (sz + 5) = some (.inl (0, 7, .inl (fun _ => 0))) := (x53 _ (by omega)).trans a52_5
  have a53_6 : g53 (sz + 6) = some (.inl (0, 7, .inl (fun _ => 0))) := (x53 _ (by omega)).trans a52_6
  have a53_7 : g53 (sz + 7) = some (.inl (1, 15, .inl (upd (upd (upd (upd (upd (upd (upd (upd (upd (upd (upd (upd (upd (upd (upd (fun _ => 0) 0 (vp_nar .byte 117)) 1 (vp_nar .byte 112)) 2 (vp_nar .byte 0)) 3 (vp_nar .byte 0)) 4 (vp_nar .byte 0)) 5 (vp_nar .byte 100)) 6 (vp_nar .byte 111)) 7 (vp_nar .byte 119)) 8 (vp_nar .byte 110)) 9 (vp_nar .byte 0)) 10 (vp_nar .byte 97)) 11 (vp_nar .byte 110)) 12 (vp_nar .byte 121)) 13 (vp_nar .byte 0)) 14 (vp_nar .byte 0)))) := (x53 _ (by omega)).trans a52_7
  have a53_8 : g53 (sz + 8) = some (.inl (0, 133, .inl (fun _ => 0))) := (x53 _ (by omega)).trans a52_8
  have a53_9 : g53 (sz + 9) = some (.inl (0, 133, .inl (fun _ => 0))) := (x53 _ (by omega)).trans a52_9
  have a53_10 : g53 (sz + 10) = some (.inl (0, 2660, .inl (fun _ => 0))) := (x53 _ (by omega)).trans a52_10
  have a53_11 : g53 (sz + 11) = some (.inl (0, 120, .inl (fun _ => 0))) := (x53 _ (by omega)).trans a52_11
  have a53_12 : g53 (sz + 12) = some (.inl (2, 4804, .inr (.inl (fun _ => 0)))) := (x53 _ (by omega)).trans a52_12
  have a53_13 : g53 (sz + 13) = some (.inl (0, 1201, .inl (fun _ => 0))) := (x53 _ (by omega)).trans a52_13
  have a53_14 : g53 (sz + 14) = some (.inl (0, 1201, .inl (fun _ => 0))) := (x53 _ (by omega)).trans a52_14
  have a53_15 : g53 (sz + 15) = some (.inl (0, 1201, .inl (fun _ => 0))) := (x53 _ (by omega)).trans a52_15
  have a53_16 : g53 (sz + 16) = some (.inl (0, 64, .inl (fun _ => 0))) := (x53 _ (by omega)).trans a52_16
  have a53_17 : g53 (sz + 17) = some (.inl (0, 64, .inl (fun _ => 0))) := (x53 _ (by omega)).trans a52_17
  have a53_18 : g53 (sz + 18) = some (.inl (2, 4, .inr (.inl (fun _ => 0)))) := (x53 _ (by omega)).trans a52_18
  have a53_19 : g53 (sz + 19) = some (.inl (0, 10, .inl (fun _ => 0))) := (x53 _ (by omega)).trans a52_19
  have o54 : (hup g53 (sz + 20) (.inl (0, 720, .inl (fun _ => 0)))) sz = some (.inr (9, [.ref (sz + 1), .int 0, .int 0, .int 0, .int 0, .ref (sz + 2), .ref (sz + 3), .int 0, .ref (sz + 4), .ref (sz + 5), .ref (sz + 6), .int 0, .ref (sz + 7), .int 0, .int 0, .int 0, .ref (sz + 8), .ref (sz + 9), .ref (sz + 10), .int 0, .int 0, .ref (sz + 11), .int 0, .int 0, .int 0, .ref (sz + 12), .ref (sz + 13), .ref (sz + 14), .ref (sz + 15), .int 0, .int 0, .ref (sz + 16), .ref (sz + 17), .ref (sz + 18), .ref (sz + 19), .null, .int 0, .null, .null, .int 0, .long 0])) := (hup_ne (by omega)).trans o53
  have b54 : ∀ b, b < sz → (hup g53 (sz + 20) (.inl (0, 720, .inl (fun _ => 0)))) b = g b := fun b hb => (hup_ne (by omega)).trans (b53 b hb)
  have a54_1 : (hup g53 (sz + 20) (.inl (0, 720, .inl (fun _ => 0)))) (sz + 1) = some (.inl (1, 200, .inl (fun _ => 0))) := (hup_ne (by omega)).trans a53_1
  have a54_2 : (hup g53 (sz + 20) (.inl (0, 720, .inl (fun _ => 0)))) (sz + 2) = some (.inl (0, 180, .inl (fun _ => 0))) := (hup_ne (by omega)).trans a53_2
  have a54_3 : (hup g53 (sz + 20) (.inl (0, 720, .inl (fun _ => 0)))) (sz + 3) = some (.inl (0, 9, .inl (fun _ => 0))) := (hup_ne (by omega)).trans a53_3
  have a54_4 : (hup g53 (sz + 20) (.inl (0, 720, .inl (fun _ => 0)))) (sz + 4) = some (.inl (0, 448, .inl (fun _ => 0))) := (hup_ne (by omega)).trans a53_4
  have a54_5 : (hup g53 (sz + 20) (.inl (0, 720, .inl (fun _ => 0)))) (sz + 5) = some (.inl (0, 7, .inl (fun _ => 0))) := (hup_ne (by omega)).trans a53_5
  have a54_6 : (hup g53 (sz + 20) (.inl (0, 720, .inl (fun _ => 0)))) (sz + 6) = some (.inl (0, 7, .inl (fun _ => 0))) := (hup_ne (by omega)).trans a53_6
  have a54_7 : (hup g53 (sz + 20) (.inl (0, 720, .inl (fun _ => 0)))) (sz + 7) = some (.inl (1, 15, .inl (upd (upd (upd (upd (upd (upd (upd (upd (upd (upd (upd (upd (upd (upd (upd (fun _ => 0) 0 (vp_nar .byte 117)) 1 (vp_nar .byte 112)) 2 (vp_nar .byte 0)) 3 (vp_nar .byte 0)) 4 (vp_nar .byte 0)) 5 (vp_nar .byte 100)) 6 (vp_nar .byte 111)) 7 (vp_nar .byte 119)) 8 (vp_nar .byte 110)) 9 (vp_nar .byte 0)) 10 (vp_nar .byte 97)) 11 (vp_nar .byte 110)) 12 (vp_nar .byte 121)) 13 (vp_nar .byte 0)) 14 (vp_nar .byte 0)))) := (hup_ne (by omega)).trans a53_7
  have a54_8 : (hup g53 (sz + 20) (.inl (0, 720, .inl (fun _ => 0)))) (sz + 8) = some (.inl (0, 133, .inl (fun _ => 0))) := (hup_ne (by omega)).trans a53_8
  have a54_9 : (hup g53 (sz + 20) (.inl (0, 720, .inl (fun _ => 0)))) (sz + 9) = some (.inl (0, 133, .inl (fun _ => 0))) := (hup_ne (by omega)).trans a53_9
  have a54_10 : (hup g53 (sz + 20) (.inl (0, 720, .inl (fun _ => 0)))) (sz + 10) = some (.inl (0, 2660, .inl (fun _ => 0))) := (hup_ne (by omega)).trans a53_10
  have a54_11 : (hup g53 (sz + 20) (.inl (0, 720, .inl (fun _ => 0)))) (sz + 11) = some (.inl (0, 120, .inl (fun _ => 0))) := (hup_ne (by omega)).trans a53_11
  have a54_12 : (hup g53 (sz + 20) (.inl (0, 720, .inl (fun _ => 0)))) (sz + 12) = some (.inl (2, 4804, .inr (.inl (fun _ => 0)))) := (hup_ne (by omega)).trans a53_12
  have a54_13 : (hup g53 (sz + 20) (.inl (0, 720, .inl (fun _ => 0)))) (sz + 13) = some (.inl (0, 1201, .inl (fun _ => 0))) := (hup_ne (by omega)).trans a53_13
  have a54_14 : (hup g53 (sz + 20) (.inl (0, 720, .inl (fun _ => 0)))) (sz + 14) = some (.inl (0, 1201, .inl (fun _ => 0))) := (hup_ne (by omega)).trans a53_14
  have a54_15 : (hup g53 (sz + 20) (.inl (0, 720, .inl (fun _ => 0)))) (sz + 15) = some (.inl (0, 1201, .inl (fun _ => 0))) := (hup_ne (by omega)).trans a53_15
  have a54_16 : (hup g53 (sz + 20) (.inl (0, 720, .inl (fun _ => 0)))) (sz + 16) = some (.inl (0, 64, .inl (fun _ => 0))) := (hup_ne (by omega)).trans a53_16
  have a54_17 : (hup g53 (sz + 20) (.inl (0, 720, .inl (fun _ => 0)))) (sz + 17) = some (.inl (0, 64, .inl (fun _ => 0))) := (hup_ne (by omega)).trans a53_17
  have a54_18 : (hup g53 (sz + 20) (.inl (0, 720, .inl (fun _ => 0)))) (sz + 18) = some (.inl (2, 4, .inr (.inl (fun _ => 0)))) := (hup_ne (by omega)).trans a53_18
  have a54_19 : (hup g53 (sz + 20) (.inl (0, 720, .inl (fun _ => 0)))) (sz + 19) = some (.inl (0, 10, .inl (fun _ => 0))) := (hup_ne (by omega)).trans a53_19
  have a54_20 : (hup g53 (sz + 20) (.inl (0, 720, .inl (fun _ => 0)))) (sz + 20) = some (.inl (0, 720, .inl (fun _ => 0))) := hup_eq
  obtain ⟨g55, e55, o55, x55⟩ := put_step (k := 35) (v := .ref (sz + 20)) (fs' := [.ref (sz + 1), .int 0, .int 0, .int 0, .int 0, .ref (sz + 2), .ref (sz + 3), .int 0, .ref (sz + 4), .ref (sz + 5), .ref (sz + 6), .int 0, .ref (sz + 7), .int 0, .int 0, .int 0, .ref (sz + 8), .ref (sz + 9), .ref (sz + 10), .int 0, .int 0, .ref (sz + 11), .int 0, .int 0, .int 0, .ref (sz + 12), .ref (sz + 13), .ref (sz + 14), .ref (sz + 15), .int 0, .int 0, .ref (sz + 16), .ref (sz + 17), .ref (sz + 18), .ref (sz + 19), .ref (sz + 20), .int 0, .null, .null, .int 0, .long 0]) o54 (Nat.le_of_ble_eq_true rfl) rfl
  have b55 : ∀ b, b < sz → g55 b = g b := fun b hb => (x55 b (by omega)).trans (b54 b hb)
  have a55_1 : g55 (sz + 1) = some (.inl (1, 200, .inl (fun _ => 0))) := (x55 _ (by omega)).trans a54_1
  have a55_2 : g55 (sz + 2) = some (.inl (0, 180, .inl (fun _ => 0))) := (x55 _ (by omega)).trans a54_2
  have a55_3 : g55 (sz + 3) = some (.inl (0, 9, .inl (fun _ => 0))) := (x55 _ (by omega)).trans a54_3
  have a55_4 : g55 (sz + 4) = some (.inl (0, 448, .inl (fun _ => 0))) := (x55 _ (by omega)).trans a54_4
  have a55_5 : g55 (sz + 5) = some (.inl (0, 7, .inl (fun _ => 0))) := (x55 _ (by omega)).trans a54_5
  have a55_6 : g55 (sz + 6) = some (.inl (0, 7, .inl (fun _ => 0))) := (x55 _ (by omega)).trans a54_6
  have a55_7 : g55 (sz + 7) = some (.inl (1, 15, .inl (upd (upd (upd (upd (upd (upd (upd (upd (upd (upd (upd (upd (upd (upd (upd (fun _ => 0) 0 (vp_nar .byte 117)) 1 (vp_nar .byte 112)) 2 (vp_nar .byte 0)) 3 (vp_nar .byte 0)) 4 (vp_nar .byte 0)) 5 (vp_nar .byte 100)) 6 (vp_nar .byte 111)) 7 (vp_nar .byte 119)) 8 (vp_nar .byte 110)) 9 (vp_nar .byte 0)) 10 (vp_nar .byte 97)) 11 (vp_nar .byte 110)) 12 (vp_nar .byte 121)) 13 (vp_nar .byte 0)) 14 (vp_nar .byte 0)))) := (x55 _ (by omega)).trans a54_7
  have a55_8 : g55 (sz + 8) = some (.inl (0, 133, .inl (fun _ => 0))) := (x55 _ (by omega)).trans a54_8
  have a55_9 : g55 (sz + 9) = some (.inl (0, 133, .inl (fun _ => 0))) := (x55 _ (by omega)).trans a54_9
  have a55_10 : g55 (sz + 10) = some (.inl (0, 2660, .inl (fun _ => 0))) := (x55 _ (by omega)).trans a54_10
  have a55_11 : g55 (sz + 11) = some (.inl (0, 120, .inl (fun _ => 0))) := (x55 _ (by omega)).trans a54_11
  have a55_12 : g55 (sz + 12) = some (.inl (2, 4804, .inr (.inl (fun _ => 0)))) := (x55 _ (by omega)).trans a54_12
  have a55_13 : g55 (sz + 13) = some (.inl (0, 1201, .inl (fun _ => 0))) := (x55 _ (by omega)).trans a54_13
  have a55_14 : g55 (sz + 14) = some (.inl (0, 1201, .inl (fun _ => 0))) := (x55 _ (by omega)).trans a54_14
  have a55_15 : g55 (sz + 15) = some (.inl (0, 1201, .inl (fun _ => 0))) := (x55 _ (by omega)).trans a54_15
  have a55_16 : g55 (sz + 16) = some (.inl (0, 64, .inl (fun _ => 0))) := (x55 _ (by omega)).trans a54_16
  have a55_17 : g55 (sz + 17) = some (.inl (0, 64, .inl (fun _ => 0))) := (x55 _ (by omega)).trans a54_17
  have a55_18 : g55 (sz + 18) = some (.inl (2, 4, .inr (.inl (fun _ => 0)))) := (x55 _ (by omega)).trans a54_18
  have a55_19 : g55 (sz + 19) = some (.inl (0, 10, .inl (fun _ => 0))) := (x55 _ (by omega)).trans a54_19
  have a55_20 : g55 (sz + 20) = some (.inl (0, 720, .inl (fun _ => 0))) := (x55 _ (by omega)).trans a54_20
  have o56 : (hup g55 (sz + 21) (.inl (0, 240, .inl (fun _ => 0)))) sz = some (.inr (9, [.ref (sz + 1), .int 0, .int 0, .int 0, .int 0, .ref (sz + 2), .ref (sz + 3), .int 0, .ref (sz + 4), .ref (sz + 5), .ref (sz + 6), .int 0, .ref (sz + 7), .int 0, .int 0, .int 0, .ref (sz + 8), .ref (sz + 9), .ref (sz + 10), .int 0, .int 0, .ref (sz + 11), .int 0, .int 0, .int 0, .ref (sz + 12), .ref (sz + 13), .ref (sz + 14), .ref (sz + 15), .int 0, .int 0, .ref (sz + 16), .ref (sz + 17), .ref (sz + 18), .ref (sz + 19), .ref (sz + 20), .int 0, .null, .null, .int 0, .long 0])) := (hup_ne (by omega)).trans o55
  have b56 : ∀ b, b < sz → (hup g55 (sz + 21) (.inl (0, 240, .inl (fun _ => 0)))) b = g b := fun b hb => (hup_ne (by omega)).trans (b55 b hb)
  have a56_1 : (hup g55 (sz + 21) (.inl (0, 240, .inl (fun _ => 0)))) (sz + 1) = some (.inl (1, 200, .inl (fun _ => 0))) := (hup_ne (by omega)).trans a55_1
  have a56_2 : (hup g55 (sz + 21) (.inl (0, 240, .inl (fun _ => 0)))) (sz + 2) = some (.inl (0, 180, .inl (fun _ => 0))) := (hup_ne (by omega)).trans a55_2
  have a56_3 : (hup g55 (sz + 21) (.inl (0, 240, .inl (fun _ => 0)))) (sz + 3) = some (.inl (0, 9, .inl (fun _ => 0))) := (hup_ne (by omega)).trans a55_3
  have a56_4 : (hup g55 (sz + 21) (.inl (0, 240, .inl (fun _ => 0)))) (sz + 4) = some (.inl (0, 448, .inl (fun _ => 0))) := (hup_ne (by omega)).trans a55_4
  have a56_5 : (hup g55 (sz + 21) (.inl (0, 240, .inl (fun _ => 0)))) (sz + 5) = some (.inl (0, 7, .inl (fun _ => 0))) := (hup_ne (by omega)).trans a55_5
  have a56_6 : (hup g55 (sz + 21) (.inl (0, 240, .inl (fun _ => 0)))) (sz + 6) = some (.inl (0, 7, .inl (fun _ => 0))) := (hup_ne (by omega)).trans a55_6
  have a56_7 : (hup g55 (sz + 21) (.inl (0, 240, .inl (fun _ => 0)))) (sz + 7) = some (.inl (1, 15, .inl (upd (upd (upd (upd (upd (upd (upd (upd (upd (upd (upd (upd (upd (upd (upd (fun _ => 0) 0 (vp_nar .byte 117)) 1 (vp_nar .byte 112)) 2 (vp_nar .byte 0)) 3 (vp_nar .byte 0)) 4 (vp_nar .byte 0)) 5 (vp_nar .byte 100)) 6 (vp_nar .byte 111)) 7 (vp_nar .byte 119)) 8 (vp_nar .byte 110)) 9 (vp_nar .byte 0)) 10 (vp_nar .byte 97)) 11 (vp_nar .byte 110)) 12 (vp_nar .byte 121)) 13 (vp_nar .byte 0)) 14 (vp_nar .byte 0)))) := (hup_ne (by omega)).trans a55_7
  have a56_8 : (hup g55 (sz + 21) (.inl (0, 240, .inl (fun _ => 0)))) (sz + 8) = some (.inl (0, 133, .inl (fun _ => 0))) := (hup_ne (by omega)).trans a55_8
  have a56_9 : (hup g55 (sz + 21) (.inl (0, 240, .inl (fun _ => 0)))) (sz + 9) = some (.inl (0, 133, .inl (fun _ => 0))) := (hup_ne (by omega)).trans a55_9
  have a56_10 : (hup g55 (sz + 21) (.inl (0, 240, .inl (fun _ => 0)))) (sz + 10) = some (.inl (0, 2660, .inl (fun _ => 0))) := (hup_ne (by omega)).trans a55_10
  have a56_11 : (hup g55 (sz + 21) (.inl (0, 240, .inl (fun _ => 0)))) (sz + 11) = some (.inl (0, 120, .inl (fun _ => 0))) := (hup_ne (by omega)).trans a55_11
  have a56_12 : (hup g55 (sz + 21) (.inl (0, 240, .inl (fun _ => 0)))) (sz + 12) = some (.inl (2, 4804, .inr (.inl (fun _ => 0)))) := (hup_ne (by omega)).trans a55_12
  have a56_13 : (hup g55 (sz + 21) (.inl (0, 240, .inl (fun _ => 0)))) (sz + 13) = some (.inl (0, 1201, .inl (fun _ => 0))) := (hup_ne (by omega)).trans a55_13
  have a56_14 : (hup g55 (sz + 21) (.inl (0, 240, .inl (fun _ => 0)))) (sz + 14) = some (.inl (0, 1201, .inl (fun _ => 0))) := (hup_ne (by omega)).trans a55_14
  have a56_15 : (hup g55 (sz + 21) (.inl (0, 240, .inl (fun _ => 0)))) (sz + 15) = some (.inl (0, 1201, .inl (fun _ => 0))) := (hup_ne (by omega)).trans a55_15
  have a56_16 : (hup g55 (sz + 21) (.inl (0, 240, .inl (fun _ => 0)))) (sz + 16) = some (.inl (0, 64, .inl (fun _ => 0))) := (hup_ne (by omega)).trans a55_16
  have a56_17 : (hup g55 (sz + 21) (.inl (0, 240, .inl (fun _ => 0)))) (sz + 17) = some (.inl (0, 64, .inl (fun _ => 0))) := (hup_ne (by omega)).trans a55_17
  have a56_18 : (hup g55 (sz + 21) (.inl (0, 240, .inl (fun _ => 0)))) (sz + 18) = some (.inl (2, 4, .inr (.inl (fun _ => 0)))) := (hup_ne (by omega)).trans a55_18
  have a56_19 : (hup g55 (sz + 21) (.inl (0, 240, .inl (fun _ => 0)))) (sz + 19) = some (.inl (0, 10, .inl (fun _ => 0))) := (hup_ne (by omega)).trans a55_19
  have a56_20 : (hup g55 (sz + 21) (.inl (0, 240, .inl (fun _ => 0)))) (sz + 20) = some (.inl (0, 720, .inl (fun _ => 0))) := (hup_ne (by omega)).trans a55_20
  have a56_21 : (hup g55 (sz + 21) (.inl (0, 240, .inl (fun _ => 0)))) (sz + 21) = some (.inl (0, 240, .inl (fun _ => 0))) := hup_eq
  obtain ⟨g57, e57, o57, x57⟩ := put_step (k := 37) (v := .ref (sz + 21)) (fs' := [.ref (sz + 1), .int 0, .int 0, .int 0, .int 0, .ref (sz + 2), .ref (sz + 3), .int 0, .ref (sz + 4), .ref (sz + 5), .ref (sz + 6), .int 0, .ref (sz + 7), .int 0, .int 0, .int 0, .ref (sz + 8), .ref (sz + 9), .ref (sz + 10), .int 0, .int 0, .ref (sz + 11), .int 0, .int 0, .int 0, .ref (sz + 12), .ref (sz + 13), .ref (sz + 14), .ref (sz + 15), .int 0, .int 0, .ref (sz + 16), .ref (sz + 17), .ref (sz + 18), .ref (sz + 19), .ref (sz + 20), .int 0, .ref (sz + 21), .null, .int 0, .long 0]) o56 (Nat.le_of_ble_eq_true rfl) rfl
  have b57 : ∀ b, b < sz → g57 b = g b := fun b hb => (x57 b (by omega)).trans (b56 b hb)
  have a57_1 : g57 (sz + 1) = some (.inl (1, 200, .inl (fun _ => 0))) := (x57 _ (by omega)).trans a56_1
  have a57_2 : g57 (sz + 2) = some (.inl (0, 180, .inl (fun _ => 0))) := (x57 _ (by omega)).trans a56_2
  have a57_3 : g57 (sz + 3) = some (.inl (0, 9, .inl (fun _ => 0))) := (x57 _ (by omega)).trans a56_3
  have a57_4 : g57 (sz + 4) = some (.inl (0, 448, .inl (fun _ => 0))) := (x57 _ (by omega)).trans a56_4
  have a57_5 : g57 (sz + 5) = some (.inl (0, 7, .inl (fun _ => 0))) := (x57 _ (by omega)).trans a56_5
  have a57_6 : g57 (sz + 6) = some (.inl (0, 7, .inl (fun _ => 0))) := (x57 _ (by omega)).trans a56_6
  have a57_7 : g57 (sz + 7) = some (.inl (1, 15, .inl (upd (upd (upd (upd (upd (upd (upd (upd (upd (upd (upd (upd (upd (upd (upd (fun _ => 0) 0 (vp_nar .byte 117)) 1 (vp_nar .byte 112)) 2 (vp_nar .byte 0)) 3 (vp_nar .byte 0)) 4 (vp_nar .byte 0)) 5 (vp_nar .byte 100)) 6 (vp_nar .byte 111)) 7 (vp_nar .byte 119)) 8 (vp_nar .byte 110)) 9 (vp_nar .byte 0)) 10 (vp_nar .byte 97)) 11 (vp_nar .byte 110)) 12 (vp_nar .byte 121)) 13 (vp_nar .byte 0)) 14 (vp_nar .byte 0)))) := (x57 _ (by omega)).trans a56_7
  have a57_8 : g57 (sz + 8) = some (.inl (0, 133, .inl (fun _ => 0))) := (x57 _ (by omega)).trans a56_8
  have a57_9 : g57 (sz + 9) = some (.inl (0, 133, .inl (fun _ => 0))) := (x57 _ (by omega)).trans a56_9
  have a57_10 : g57 (sz + 10) = some (.inl (0, 2660, .inl (fun _ => 0))) := (x57 _ (by omega)).trans a56_10
  have a57_11 : g57 (sz + 11) = some (.inl (0, 120, .inl (fun _ => 0))) := (x57 _ (by omega)).trans a56_11
  have a57_12 : g57 (sz + 12) = some (.inl (2, 4804, .inr (.inl (fun _ => 0)))) := (x57 _ (by omega)).trans a56_12
  have a57_13 : g57 (sz + 13) = some (.inl (0, 1201, .inl (fun _ => 0))) := (x57 _ (by omega)).trans a56_13
  have a57_14 : g57 (sz + 14) = some (.inl (0, 1201, .inl (fun _ => 0))) := (x57 _ (by omega)).trans a56_14
  have a57_15 : g57 (sz + 15) = some (.inl (0, 1201, .inl (fun _ => 0))) := (x57 _ (by omega)).trans a56_15
  have a57_16 : g57 (sz + 16) = some (.inl (0, 64, .inl (fun _ => 0))) := (x57 _ (by omega)).trans a56_16
  have a57_17 : g57 (sz + 17) = some (.inl (0, 64, .inl (fun _ => 0))) := (x57 _ (by omega)).trans a56_17
  have a57_18 : g57 (sz + 18) = some (.inl (2, 4, .inr (.inl (fun _ => 0)))) := (x57 _ (by omega)).trans a56_18
  have a57_19 : g57 (sz + 19) = some (.inl (0, 10, .inl (fun _ => 0))) := (x57 _ (by omega)).trans a56_19
  have a57_20 : g57 (sz + 20) = some (.inl (0, 720, .inl (fun _ => 0))) := (x57 _ (by omega)).trans a56_20
  have a57_21 : g57 (sz + 21) = some (.inl (0, 240, .inl (fun _ => 0))) := (x57 _ (by omega)).trans a56_21
  have o58 : (hup g57 (sz + 22) (.inl (0, 28800, .inl (fun _ => 0)))) sz = some (.inr (9, [.ref (sz + 1), .int 0, .int 0, .int 0, .int 0, .ref (sz + 2), .ref (sz + 3), .int 0, .ref (sz + 4), .ref (sz + 5), .ref (sz + 6), .int 0, .ref (sz + 7), .int 0, .int 0, .int 0, .ref (sz + 8), .ref (sz + 9), .ref (sz + 10), .int 0, .int 0, .ref (sz + 11), .int 0, .int 0, .int 0, .ref (sz + 12), .ref (sz + 13), .ref (sz + 14), .ref (sz + 15), .int 0, .int 0, .ref (sz + 16), .ref (sz + 17), .ref (sz + 18), .ref (sz + 19), .ref (sz + 20), .int 0, .ref (sz + 21), .null, .int 0, .long 0])) := (hup_ne (by omega)).trans o57
  have b58 : ∀ b, b < sz → (hup g57 (sz + 22) (.inl (0, 28800, .inl (fun _ => 0)))) b = g b := fun b hb => (hup_ne (by omega)).trans (b57 b hb)
  have a58_1 : (hup g57 (sz + 22) (.inl (0, 28800, .inl (fun _ => 0)))) (sz + 1) = some (.inl (1, 200, .inl (fun _ => 0))) := (hup_ne (by omega)).trans a57_1
  have a58_2 : (hup g57 (sz + 22) (.inl (0, 28800, .inl (fun _ => 0)))) (sz + 2) = some (.inl (0, 180, .inl (fun _ => 0))) := (hup_ne (by omega)).trans a57_2
  have a58_3 : (hup g57 (sz + 22) (.inl (0, 28800, .inl (fun _ => 0)))) (sz + 3) = some (.inl (0, 9, .inl (fun _ => 0))) := (hup_ne (by omega)).trans a57_3
  have a58_4 : (hup g57 (sz + 22) (.inl (0, 28800, .inl (fun _ => 0)))) (sz + 4) = some (.inl (0, 448, .inl (fun _ => 0))) := (hup_ne (by omega)).trans a57_4
  have a58_5 : (hup g57 (sz + 22) (.inl (0, 28800, .inl (fun _ => 0)))) (sz + 5) = some (.inl (0, 7, .inl (fun _ => 0))) := (hup_ne (by omega)).trans a57_5
  have a58_6 : (hup g57 (sz + 22) (.inl (0, 28800, .inl (fun _ => 0)))) (sz + 6) = some (.inl (0, 7, .inl (fun _ => 0))) := (hup_ne (by omega)).trans a57_6
  have a58_7 : (hup g57 (sz + 22) (.inl (0, 28800, .inl (fun _ => 0)))) (sz + 7) = some (.inl (1, 15, .inl (upd (upd (upd (upd (upd (upd (upd (upd (upd (upd (upd (upd (upd (upd (upd (fun _ => 0) 0 (vp_nar .byte 117)) 1 (vp_nar .byte 112)) 2 (vp_nar .byte 0)) 3 (vp_nar .byte 0)) 4 (vp_nar .byte 0)) 5 (vp_nar .byte 100)) 6 (vp_nar .byte 111)) 7 (vp_nar .byte 119)) 8 (vp_nar .byte 110)) 9 (vp_nar .byte 0)) 10 (vp_nar .byte 97)) 11 (vp_nar .byte 110)) 12 (vp_nar .byte 121)) 13 (vp_nar .byte 0)) 14 (vp_nar .byte 0)))) := (hup_ne (by omega)).trans a57_7
  have a58_8 : (hup g57 (sz + 22) (.inl (0, 28800, .inl (fun _ => 0)))) (sz + 8) = some (.inl (0, 133, .inl (fun _ => 0))) := (hup_ne (by omega)).trans a57_8
  have a58_9 : (hup g57 (sz + 22) (.inl (0, 28800, .inl (fun _ => 0)))) (sz + 9) = some (.inl (0, 133, .inl (fun _ => 0))) := (hup_ne (by omega)).trans a57_9
  have a58_10 : (hup g57 (sz + 22) (.inl (0, 28800, .inl (fun _ => 0)))) (sz + 10) = some (.inl (0, 2660, .inl (fun _ => 0))) := (hup_ne (by omega)).trans a57_10
  have a58_11 : (hup g57 (sz + 22) (.inl (0, 28800, .inl (fun _ => 0)))) (sz + 11) = some (.inl (0, 120, .inl (fun _ => 0))) := (hup_ne (by omega)).trans a57_11
  have a58_12 : (hup g57 (sz + 22) (.inl (0, 28800, .inl (fun _ => 0)))) (sz + 12) = some (.inl (2, 4804, .inr (.inl (fun _ => 0)))) := (hup_ne (by omega)).trans a57_12
  have a58_13 : (hup g57 (sz + 22) (.inl (0, 28800, .inl (fun _ => 0)))) (sz + 13) = some (.inl (0, 1201, .inl (fun _ => 0))) := (hup_ne (by omega)).trans a57_13
  have a58_14 : (hup g57 (sz + 22) (.inl (0, 28800, .inl (fun _ => 0)))) (sz + 14) = some (.inl (0, 1201, .inl (fun _ => 0))) := (hup_ne (by omega)).trans a57_14
  have a58_15 : (hup g57 (sz + 22) (.inl (0, 28800, .inl (fun _ => 0)))) (sz + 15) = some (.inl (0, 1201, .inl (fun _ => 0))) := (hup_ne (by omega)).trans a57_15
  have a58_16 : (hup g57 (sz + 22) (.inl (0, 28800, .inl (fun _ => 0)))) (sz + 16) = some (.inl (0, 64, .inl (fun _ => 0))) := (hup_ne (by omega)).trans a57_16
  have a58_17 : (hup g57 (sz + 22) (.inl (0, 28800, .inl (fun _ => 0)))) (sz + 17) = some (.inl (0, 64, .inl (fun _ => 0))) := (hup_ne (by omega)).trans a57_17
  have a58_18 : (hup g57 (sz + 22) (.inl (0, 28800, .inl (fun _ => 0)))) (sz + 18) = some (.inl (2, 4, .inr (.inl (fun _ => 0)))) := (hup_ne (by omega)).trans a57_18
  have a58_19 : (hup g57 (sz + 22) (.inl (0, 28800, .inl (fun _ => 0)))) (sz + 19) = some (.inl (0, 10, .inl (fun _ => 0))) := (hup_ne (by omega)).trans a57_19
  have a58_20 : (hup g57 (sz + 22) (.inl (0, 28800, .inl (fun _ => 0)))) (sz + 20) = some (.inl (0, 720, .inl (fun _ => 0))) := (hup_ne (by omega)).trans a57_20
  have a58_21 : (hup g57 (sz + 22) (.inl (0, 28800, .inl (fun _ => 0)))) (sz + 21) = some (.inl (0, 240, .inl (fun _ => 0))) := (hup_ne (by omega)).trans a57_21
  have a58_22 : (hup g57 (sz + 22) (.inl (0, 28800, .inl (fun _ => 0)))) (sz + 22) = some (.inl (0, 28800, .inl (fun _ => 0))) := hup_eq
  obtain ⟨g59, e59, o59, x59⟩ := put_step (k := 38) (v := .ref (sz + 22)) (fs' := [.ref (sz + 1), .int 0, .int 0, .int 0, .int 0, .ref (sz + 2), .ref (sz + 3), .int 0, .ref (sz + 4), .ref (sz + 5), .ref (sz + 6), .int 0, .ref (sz + 7), .int 0, .int 0, .int 0, .ref (sz + 8), .ref (sz + 9), .ref (sz + 10), .int 0, .int 0, .ref (sz + 11), .int 0, .int 0, .int 0, .ref (sz + 12), .ref (sz + 13), .ref (sz + 14), .ref (sz + 15), .int 0, .int 0, .ref (sz + 16), .ref (sz + 17), .ref (sz + 18), .ref (sz + 19), .ref (sz + 20), .int 0, .ref (sz + 21), .ref (sz + 22), .int 0, .long 0]) o58 (Nat.le_of_ble_eq_true rfl) rfl
  have b59 : ∀ b, b < sz → g59 b = g b := fun b hb => (x59 b (by omega)).trans (b58 b hb)
  have a59_1 : g59 (sz + 1) = some (.inl (1, 200, .inl (fun _ => 0))) := (x59 _ (by omega)).trans a58_1
  have a59_2 : g59 (sz + 2) = some (.inl (0, 180, .inl (fun _ => 0))) := (x59 _ (by omega)).trans a58_2
  have a59_3 : g59 (sz + 3) = some (.inl (0, 9, .inl (fun _ => 0))) := (x59 _ (by omega)).trans a58_3
  have a59_4 : g59 (sz + 4) = some (.inl (0, 448, .inl (fun _ => 0))) := (x59 _ (by omega)).trans a58_4
  have a59_5 : g59 (sz + 5) = some (.inl (0, 7, .inl (fun _ => 0))) := (x59 _ (by omega)).trans a58_5
  have a59_6 : g59 (sz + 6) = some (.inl (0, 7, .inl (fun _ => 0))) := (x59 _ (by omega)).trans a58_6
  have a59_7 : g59 (sz + 7) = some (.inl (1, 15, .inl (upd (upd (upd (upd (upd (upd (upd (upd (upd (upd (upd (upd (upd (upd (upd (fun _ => 0) 0 (vp_nar .byte 117)) 1 (vp_nar .byte 112)) 2 (vp_nar .byte 0)) 3 (vp_nar .byte 0)) 4 (vp_nar .byte 0)) 5 (vp_nar .byte 100)) 6 (vp_nar .byte 111)) 7 (vp_nar .byte 119)) 8 (vp_nar .byte 110)) 9 (vp_nar .byte 0)) 10 (vp_nar .byte 97)) 11 (vp_nar .byte 110)) 12 (vp_nar .byte 121)) 13 (vp_nar .byte 0)) 14 (vp_nar .byte 0)))) := (x59 _ (by omega)).trans a58_7
  have a59_8 : g59 (sz + 8) = some (.inl (0, 133, .inl (fun _ => 0))) := (x59 _ (by omega)).trans a58_8
  have a59_9 : g59 (sz + 9) = some (.inl (0, 133, .inl (fun _ => 0))) := (x59 _ (by omega)).trans a58_9
  have a59_10 : g59 (sz + 10) = some (.inl (0, 2660, .inl (fun _ => 0))) := (x59 _ (by omega)).trans a58_10
  have a59_11 : g59 (sz + 11) = some (.inl (0, 120, .inl (fun _ => 0))) := (x59 _ (by omega)).trans a58_11
  have a59_12 : g59 (sz + 12) = some (.inl (2, 4804, .inr (.inl (fun _ => 0)))) := (x59 _ (by omega)).trans a58_12
  have a59_13 : g59 (sz + 13) = some (.inl (0, 1201, .inl (fun _ => 0))) := (x59 _ (by omega)).trans a58_13
  have a59_14 : g59 (sz + 14) = some (.inl (0, 1201, .inl (fun _ => 0))) := (x59 _ (by omega)).trans a58_14
  have a59_15 : g59 (sz + 15) = some (.inl (0, 1201, .inl (fun _ => 0))) := (x59 _ (by omega)).trans a58_15
  have a59_16 : g59 (sz + 16) = some (.inl (0, 64, .inl (fun _ => 0))) := (x59 _ (by omega)).trans a58_16
  have a59_17 : g59 (sz + 17) = some (.inl (0, 64, .inl (fun _ => 0))) := (x59 _ (by omega)).trans a58_17
  have a59_18 : g59 (sz + 18) = some (.inl (2, 4, .inr (.inl (fun _ => 0)))) := (x59 _ (by omega)).trans a58_18
  have a59_19 : g59 (sz + 19) = some (.inl (0, 10, .inl (fun _ => 0))) := (x59 _ (by omega)).trans a58_19
  have a59_20 : g59 (sz + 20) = some (.inl (0, 720, .inl (fun _ => 0))) := (x59 _ (by omega)).trans a58_20
  have a59_21 : g59 (sz + 21) = some (.inl (0, 240, .inl (fun _ => 0))) := (x59 _ (by omega)).trans a58_21
  have a59_22 : g59 (sz + 22) = some (.inl (0, 28800, .inl (fun _ => 0))) := (x59 _ (by omega)).trans a58_22
  refine ⟨g59, ?_, b59, o59, a59_1, a59_2, a59_3, a59_4, a59_5, a59_6, a59_7, a59_8, a59_9, a59_10, a59_11, a59_12, a59_13, a59_14, a59_15, a59_16, a59_17, a59_18, a59_19, a59_20, a59_21, a59_22⟩
  intro q hq
  unfold fX9_init
  refine bmp_of (m1 := 21) (s1 := 42021) ?_ rfl rfl
  refine ob_of e2 ?_
  refine bmp_of (m1 := 20) (s1 := 41841) ?_ rfl rfl
  refine ob_of e4 ?_
  refine bmp_of (m1 := 19) (s1 := 41832) ?_ rfl rfl
  refine ob_of e6 ?_
  refine bmp_of (m1 := 18) (s1 := 41384) ?_ rfl rfl
  refine ob_of e8 ?_
  refine bmp_of (m1 := 17) (s1 := 41377) ?_ rfl rfl
  refine ob_of e10 ?_
  refine bmp_of (m1 := 16) (s1 := 41370) ?_ rfl rfl
  refine ob_of e12 ?_
  refine bmp_of (m1 := 15) (s1 := 41355) ?_ rfl rfl
  refine ob_of e14 ?_
  refine ob_of e15 ?_
  refine ob_of e16 ?_
  refine ob_of e17 ?_
  refine ob_of e18 ?_
  refine ob_of e19 ?_
  refine ob_of e20 ?_
  refine ob_of e21 ?_
  refine ob_of e22 ?_
  refine ob_of e23 ?_
  refine ob_of e24 ?_
  refine ob_of e25 ?_
  refine ob_of e26 ?_
  refine ob_of e27 ?_
  refine ob_of e28 ?_
  refine ob_of e29 ?_
  refine bmp_of (m1 := 14) (s1 := 41222) ?_ rfl rfl
  refine ob_of e31 ?_
  refine bmp_of (m1 := 13) (s1 := 41089) ?_ rfl rfl
  refine ob_of e33 ?_
  refine bmp_of (m1 := 12) (s1 := 38429) ?_ rfl rfl
  refine ob_of e35 ?_
  refine bmp_of (m1 := 11) (s1 := 38309) ?_ rfl rfl
  refine ob_of e37 ?_
  refine bmp_of (m1 := 10) (s1 := 33505) ?_ rfl rfl
  refine ob_of e39 ?_
  refine bmp_of (m1 := 9) (s1 := 32304) ?_ rfl rfl
  refine ob_of e41 ?_
  refine bmp_of (m1 := 8) (s1 := 31103) ?_ rfl rfl
  refine ob_of e43 ?_
  refine bmp_of (m1 := 7) (s1 := 29902) ?_ rfl rfl
  refine ob_of e45 ?_
  refine bmp_of (m1 := 6) (s1 := 29838) ?_ rfl rfl
  refine ob_of e47 ?_
  refine bmp_of (m1 := 5) (s1 := 29774) ?_ rfl rfl
  refine ob_of e49 ?_
  refine bmp_of (m1 := 4) (s1 := 29770) ?_ rfl rfl
  refine ob_of e51 ?_
  refine bmp_of (m1 := 3) (s1 := 29760) ?_ rfl rfl
  refine ob_of e53 ?_
  refine bmp_of (m1 := 2) (s1 := 29040) ?_ rfl rfl
  refine ob_of e55 ?_
  refine bmp_of (m1 := 1) (s1 := 28800) ?_ rfl rfl
  refine ob_of e57 ?_
  refine bmp_of (m1 := 0) (s1 := 0) ?_ rfl rfl
  refine ob_of e59 ?_
  refine ob_of hq ?_
  rfl
