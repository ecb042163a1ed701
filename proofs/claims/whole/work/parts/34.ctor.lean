def nwX1 (w : HS) (a : Nat) : HS := nObj w a 1 (fun _ => 0) (fun _ => 0) (fun _ => none) (fun _ _ => 0) (fun _ _ => 0) (fun _ _ => none)
def anX1 (sz : Nat) : Nat → Nat := fun k => match k with | 2 => sz + 1 | 3 => sz + 2 | 4 => sz + 3 | 5 => sz + 4 | 6 => sz + 5 | 7 => sz + 6 | 8 => sz + 7 | _ => 0
set_option maxHeartbeats 4000000 in
set_option maxRecDepth 100000 in
theorem ctX1 {ar : Nat → Nat → Nat} {c0 : Nat → Nat} {sz : Nat} {g : PH} {w : HS} (P : Rel ar c0 sz g w) : ∃ g', fX1_init (sz + 1) (hup g sz (.inr (1, dfX1))) sz = some ((), g', 7, 48) ∧ Rel (fun b k => if b = sz then anX1 sz k else ar b k) (fun b => if b = sz then 1 else c0 b) (sz + 1 + 7) g' (nwX1 w sz) ∧ Ext ar c0 (fun b k => if b = sz then anX1 sz k else ar b k) (fun b => if b = sz then 1 else c0 b) := by
  have o0 : hup g sz (.inr (1, dfX1)) sz = some (.inr (1, [.int 0, .int 0, .null, .null, .null, .null, .null, .null, .null])) := hup_eq
  have b0 : ∀ b, b < sz → hup g sz (.inr (1, dfX1)) b = g b := fun b hb => hup_ne (by omega)
  unfold fX1_init
  obtain ⟨g1, e1, o1, x1⟩ := put_step (k := 0) (v := .int 0) (fs' := [.int 0, .int 0, .null, .null, .null, .null, .null, .null, .null]) o0 (Nat.le_of_ble_eq_true rfl) rfl
  have b1 : ∀ b, b < sz → g1 b = g b := fun b hb => (x1 b (by omega)).trans (b0 b hb)
  obtain ⟨g2, e2, o2, x2⟩ := put_step (k := 1) (v := .int 0) (fs' := [.int 0, .int 0, .null, .null, .null, .null, .null, .null, .null]) o1 (Nat.le_of_ble_eq_true rfl) rfl
  have b2 : ∀ b, b < sz → g2 b = g b := fun b hb => (x2 b (by omega)).trans (b1 b hb)
  have o3 : hup g2 (sz + 1) (.inl (0, 4, .inl (fun _ => 0))) sz = some (.inr (1, [.int 0, .int 0, .null, .null, .null, .null, .null, .null, .null])) := (hup_ne (by omega)).trans o2
  have b3 : ∀ b, b < sz → hup g2 (sz + 1) (.inl (0, 4, .inl (fun _ => 0))) b = g b := fun b hb => (hup_ne (by omega)).trans (b2 b hb)
  have a3_1 : hup g2 (sz + 1) (.inl (0, 4, .inl (fun _ => 0))) (sz + 1) = some (.inl (0, 4, .inl (fun _ => 0))) := hup_eq
  obtain ⟨g4, e4, o4, x4⟩ := put_step (k := 2) (v := .ref (sz + 1)) (fs' := [.int 0, .int 0, .ref (sz + 1), .null, .null, .null, .null, .null, .null]) o3 (Nat.le_of_ble_eq_true rfl) rfl
  have b4 : ∀ b, b < sz → g4 b = g b := fun b hb => (x4 b (by omega)).trans (b3 b hb)
  have a4_1 : g4 (sz + 1) = some (.inl (0, 4, .inl (fun _ => 0))) := (x4 _ (by omega)).trans a3_1
  have o5 : hup g4 (sz + 2) (.inl (0, 4, .inl (fun _ => 0))) sz = some (.inr (1, [.int 0, .int 0, .ref (sz + 1), .null, .null, .null, .null, .null, .null])) := (hup_ne (by omega)).trans o4
  have b5 : ∀ b, b < sz → hup g4 (sz + 2) (.inl (0, 4, .inl (fun _ => 0))) b = g b := fun b hb => (hup_ne (by omega)).trans (b4 b hb)
  have a5_1 : hup g4 (sz + 2) (.inl (0, 4, .inl (fun _ => 0))) (sz + 1) = some (.inl (0, 4, .inl (fun _ => 0))) := (hup_ne (by omega)).trans a4_1
  have a5_2 : hup g4 (sz + 2) (.inl (0, 4, .inl (fun _ => 0))) (sz + 2) = some (.inl (0, 4, .inl (fun _ => 0))) := hup_eq
  obtain ⟨g6, e6, o6, x6⟩ := put_step (k := 3) (v := .ref (sz + 2)) (fs' := [.int 0, .int 0, .ref (sz + 1), .ref (sz + 2), .null, .null, .null, .null, .null]) o5 (Nat.le_of_ble_eq_true rfl) rfl
  have b6 : ∀ b, b < sz → g6 b = g b := fun b hb => (x6 b (by omega)).trans (b5 b hb)
  have a6_1 : g6 (sz + 1) = some (.inl (0, 4, .inl (fun _ => 0))) := (x6 _ (by omega)).trans a5_1
  have a6_2 : g6 (sz + 2) = some (.inl (0, 4, .inl (fun _ => 0))) := (x6 _ (by omega)).trans a5_2
  have o7 : hup g6 (sz + 3) (.inl (0, 4, .inl (fun _ => 0))) sz = some (.inr (1, [.int 0, .int 0, .ref (sz + 1), .ref (sz + 2), .null, .null, .null, .null, .null])) := (hup_ne (by omega)).trans o6
  have b7 : ∀ b, b < sz → hup g6 (sz + 3) (.inl (0, 4, .inl (fun _ => 0))) b = g b := fun b hb => (hup_ne (by omega)).trans (b6 b hb)
  have a7_1 : hup g6 (sz + 3) (.inl (0, 4, .inl (fun _ => 0))) (sz + 1) = some (.inl (0, 4, .inl (fun _ => 0))) := (hup_ne (by omega)).trans a6_1
  have a7_2 : hup g6 (sz + 3) (.inl (0, 4, .inl (fun _ => 0))) (sz + 2) = some (.inl (0, 4, .inl (fun _ => 0))) := (hup_ne (by omega)).trans a6_2
  have a7_3 : hup g6 (sz + 3) (.inl (0, 4, .inl (fun _ => 0))) (sz + 3) = some (.inl (0, 4, .inl (fun _ => 0))) := hup_eq
  obtain ⟨g8, e8, o8, x8⟩ := put_step (k := 4) (v := .ref (sz + 3)) (fs' := [.int 0, .int 0, .ref (sz + 1), .ref (sz + 2), .ref (sz + 3), .null, .null, .null, .null]) o7 (Nat.le_of_ble_eq_true rfl) rfl
  have b8 : ∀ b, b < sz → g8 b = g b := fun b hb => (x8 b (by omega)).trans (b7 b hb)
  have a8_1 : g8 (sz + 1) = some (.inl (0, 4, .inl (fun _ => 0))) := (x8 _ (by omega)).trans a7_1
  have a8_2 : g8 (sz + 2) = some (.inl (0, 4, .inl (fun _ => 0))) := (x8 _ (by omega)).trans a7_2
  have a8_3 : g8 (sz + 3) = some (.inl (0, 4, .inl (fun _ => 0))) := (x8 _ (by omega)).trans a7_3
  have o9 : hup g8 (sz + 4) (.inl (0, 4, .inl (fun _ => 0))) sz = some (.inr (1, [.int 0, .int 0, .ref (sz + 1), .ref (sz + 2), .ref (sz + 3), .null, .null, .null, .null])) := (hup_ne (by omega)).trans o8
  have b9 : ∀ b, b < sz → hup g8 (sz + 4) (.inl (0, 4, .inl (fun _ => 0))) b = g b := fun b hb => (hup_ne (by omega)).trans (b8 b hb)
  have a9_1 : hup g8 (sz + 4) (.inl (0, 4, .inl (fun _ => 0))) (sz + 1) = some (.inl (0, 4, .inl (fun _ => 0))) := (hup_ne (by omega)).trans a8_1
  have a9_2 : hup g8 (sz + 4) (.inl (0, 4, .inl (fun _ => 0))) (sz + 2) = some (.inl (0, 4, .inl (fun _ => 0))) := (hup_ne (by omega)).trans a8_2
  have a9_3 : hup g8 (sz + 4) (.inl (0, 4, .inl (fun _ => 0))) (sz + 3) = some (.inl (0, 4, .inl (fun _ => 0))) := (hup_ne (by omega)).trans a8_3
  have a9_4 : hup g8 (sz + 4) (.inl (0, 4, .inl (fun _ => 0))) (sz + 4) = some (.inl (0, 4, .inl (fun _ => 0))) := hup_eq
  obtain ⟨g10, e10, o10, x10⟩ := put_step (k := 5) (v := .ref (sz + 4)) (fs' := [.int 0, .int 0, .ref (sz + 1), .ref (sz + 2), .ref (sz + 3), .ref (sz + 4), .null, .null, .null]) o9 (Nat.le_of_ble_eq_true rfl) rfl
  have b10 : ∀ b, b < sz → g10 b = g b := fun b hb => (x10 b (by omega)).trans (b9 b hb)
  have a10_1 : g10 (sz + 1) = some (.inl (0, 4, .inl (fun _ => 0))) := (x10 _ (by omega)).trans a9_1
  have a10_2 : g10 (sz + 2) = some (.inl (0, 4, .inl (fun _ => 0))) := (x10 _ (by omega)).trans a9_2
  have a10_3 : g10 (sz + 3) = some (.inl (0, 4, .inl (fun _ => 0))) := (x10 _ (by omega)).trans a9_3
  have a10_4 : g10 (sz + 4) = some (.inl (0, 4, .inl (fun _ => 0))) := (x10 _ (by omega)).trans a9_4
  have o11 : hup g10 (sz + 5) (.inl (0, 4, .inl (fun _ => 0))) sz = some (.inr (1, [.int 0, .int 0, .ref (sz + 1), .ref (sz + 2), .ref (sz + 3), .ref (sz + 4), .null, .null, .null])) := (hup_ne (by omega)).trans o10
  have b11 : ∀ b, b < sz → hup g10 (sz + 5) (.inl (0, 4, .inl (fun _ => 0))) b = g b := fun b hb => (hup_ne (by omega)).trans (b10 b hb)
  have a11_1 : hup g10 (sz + 5) (.inl (0, 4, .inl (fun _ => 0))) (sz + 1) = some (.inl (0, 4, .inl (fun _ => 0))) := (hup_ne (by omega)).trans a10_1
  have a11_2 : hup g10 (sz + 5) (.inl (0, 4, .inl (fun _ => 0))) (sz + 2) = some (.inl (0, 4, .inl (fun _ => 0))) := (hup_ne (by omega)).trans a10_2
  have a11_3 : hup g10 (sz + 5) (.inl (0, 4, .inl (fun _ => 0))) (sz + 3) = some (.inl (0, 4, .inl (fun _ => 0))) := (hup_ne (by omega)).trans a10_3
  have a11_4 : hup g10 (sz + 5) (.inl (0, 4, .inl (fun _ => 0))) (sz + 4) = some (.inl (0, 4, .inl (fun _ => 0))) := (hup_ne (by omega)).trans a10_4
  have a11_5 : hup g10 (sz + 5) (.inl (0, 4, .inl (fun _ => 0))) (sz + 5) = some (.inl (0, 4, .inl (fun _ => 0))) := hup_eq
  obtain ⟨g12, e12, o12, x12⟩ := put_step (k := 6) (v := .ref (sz + 5)) (fs' := [.int 0, .int 0, .ref (sz + 1), .ref (sz + 2), .ref (sz + 3), .ref (sz + 4), .ref (sz + 5), .null, .null]) o11 (Nat.le_of_ble_eq_true rfl) rfl
  have b12 : ∀ b, b < sz → g12 b = g b := fun b hb => (x12 b (by omega)).trans (b11 b hb)
  have a12_1 : g12 (sz + 1) = some (.inl (0, 4, .inl (fun _ => 0))) := (x12 _ (by omega)).trans a11_1
  have a12_2 : g12 (sz + 2) = some (.inl (0, 4, .inl (fun _ => 0))) := (x12 _ (by omega)).trans a11_2
  have a12_3 : g12 (sz + 3) = some (.inl (0, 4, .inl (fun _ => 0))) := (x12 _ (by omega)).trans a11_3
  have a12_4 : g12 (sz + 4) = some (.inl (0, 4, .inl (fun _ => 0))) := (x12 _ (by omega)).trans a11_4
  have a12_5 : g12 (sz + 5) = some (.inl (0, 4, .inl (fun _ => 0))) := (x12 _ (by omega)).trans a11_5
  have o13 : hup g12 (sz + 6) (.inl (0, 24, .inl (fun _ => 0))) sz = some (.inr (1, [.int 0, .int 0, .ref (sz + 1), .ref (sz + 2), .ref (sz + 3), .ref (sz + 4), .ref (sz + 5), .null, .null])) := (hup_ne (by omega)).trans o12
  have b13 : ∀ b, b < sz → hup g12 (sz + 6) (.inl (0, 24, .inl (fun _ => 0))) b = g b := fun b hb => (hup_ne (by omega)).trans (b12 b hb)
  have a13_1 : hup g12 (sz + 6) (.inl (0, 24, .inl (fun _ => 0))) (sz + 1) = some (.inl (0, 4, .inl (fun _ => 0))) := (hup_ne (by omega)).trans a12_1
  have a13_2 : hup g12 (sz + 6) (.inl (0, 24, .inl (fun _ => 0))) (sz + 2) = some (.inl (0, 4, .inl (fun _ => 0))) := (hup_ne (by omega)).trans a12_2
  have a13_3 : hup g12 (sz + 6) (.inl (0, 24, .inl (fun _ => 0))) (sz + 3) = some (.inl (0, 4, .inl (fun _ => 0))) := (hup_ne (by omega)).trans a12_3
  have a13_4 : hup g12 (sz + 6) (.inl (0, 24, .inl (fun _ => 0))) (sz + 4) = some (.inl (0, 4, .inl (fun _ => 0))) := (hup_ne (by omega)).trans a12_4
  have a13_5 : hup g12 (sz + 6) (.inl (0, 24, .inl (fun _ => 0))) (sz + 5) = some (.inl (0, 4, .inl (fun _ => 0))) := (hup_ne (by omega)).trans a12_5
  have a13_6 : hup g12 (sz + 6) (.inl (0, 24, .inl (fun _ => 0))) (sz + 6) = some (.inl (0, 24, .inl (fun _ => 0))) := hup_eq
  obtain ⟨g14, e14, o14, x14⟩ := put_step (k := 7) (v := .ref (sz + 6)) (fs' := [.int 0, .int 0, .ref (sz + 1), .ref (sz + 2), .ref (sz + 3), .ref (sz + 4), .ref (sz + 5), .ref (sz + 6), .null]) o13 (Nat.le_of_ble_eq_true rfl) rfl
  have b14 : ∀ b, b < sz → g14 b = g b := fun b hb => (x14 b (by omega)).trans (b13 b hb)
  have a14_1 : g14 (sz + 1) = some (.inl (0, 4, .inl (fun _ => 0))) := (x14 _ (by omega)).trans a13_1
  have a14_2 : g14 (sz + 2) = some (.inl (0, 4, .inl (fun _ => 0))) := (x14 _ (by omega)).trans a13_2
  have a14_3 : g14 (sz + 3) = some (.inl (0, 4, .inl (fun _ => 0))) := (x14 _ (by omega)).trans a13_3
  have a14_4 : g14 (sz + 4) = some (.inl (0, 4, .inl (fun _ => 0))) := (x14 _ (by omega)).trans a13_4
  have a14_5 : g14 (sz + 5) = some (.inl (0, 4, .inl (fun _ => 0))) := (x14 _ (by omega)).trans a13_5
  have a14_6 : g14 (sz + 6) = some (.inl (0, 24, .inl (fun _ => 0))) := (x14 _ (by omega)).trans a13_6
  have o15 : hup g14 (sz + 7) (.inl (0, 4, .inl (fun _ => 0))) sz = some (.inr (1, [.int 0, .int 0, .ref (sz + 1), .ref (sz + 2), .ref (sz + 3), .ref (sz + 4), .ref (sz + 5), .ref (sz + 6), .null])) := (hup_ne (by omega)).trans o14
  have b15 : ∀ b, b < sz → hup g14 (sz + 7) (.inl (0, 4, .inl (fun _ => 0))) b = g b := fun b hb => (hup_ne (by omega)).trans (b14 b hb)
  have a15_1 : hup g14 (sz + 7) (.inl (0, 4, .inl (fun _ => 0))) (sz + 1) = some (.inl (0, 4, .inl (fun _ => 0))) := (hup_ne (by omega)).trans a14_1
  have a15_2 : hup g14 (sz + 7) (.inl (0, 4, .inl (fun _ => 0))) (sz + 2) = some (.inl (0, 4, .inl (fun _ => 0))) := (hup_ne (by omega)).trans a14_2
  have a15_3 : hup g14 (sz + 7) (.inl (0, 4, .inl (fun _ => 0))) (sz + 3) = some (.inl (0, 4, .inl (fun _ => 0))) := (hup_ne (by omega)).trans a14_3
  have a15_4 : hup g14 (sz + 7) (.inl (0, 4, .inl (fun _ => 0))) (sz + 4) = some (.inl (0, 4, .inl (fun _ => 0))) := (hup_ne (by omega)).trans a14_4
  have a15_5 : hup g14 (sz + 7) (.inl (0, 4, .inl (fun _ => 0))) (sz + 5) = some (.inl (0, 4, .inl (fun _ => 0))) := (hup_ne (by omega)).trans a14_5
  have a15_6 : hup g14 (sz + 7) (.inl (0, 4, .inl (fun _ => 0))) (sz + 6) = some (.inl (0, 24, .inl (fun _ => 0))) := (hup_ne (by omega)).trans a14_6
  have a15_7 : hup g14 (sz + 7) (.inl (0, 4, .inl (fun _ => 0))) (sz + 7) = some (.inl (0, 4, .inl (fun _ => 0))) := hup_eq
  obtain ⟨g16, e16, o16, x16⟩ := put_step (k := 8) (v := .ref (sz + 7)) (fs' := [.int 0, .int 0, .ref (sz + 1), .ref (sz + 2), .ref (sz + 3), .ref (sz + 4), .ref (sz + 5), .ref (sz + 6), .ref (sz + 7)]) o15 (Nat.le_of_ble_eq_true rfl) rfl
  have b16 : ∀ b, b < sz → g16 b = g b := fun b hb => (x16 b (by omega)).trans (b15 b hb)
  have a16_1 : g16 (sz + 1) = some (.inl (0, 4, .inl (fun _ => 0))) := (x16 _ (by omega)).trans a15_1
  have a16_2 : g16 (sz + 2) = some (.inl (0, 4, .inl (fun _ => 0))) := (x16 _ (by omega)).trans a15_2
  have a16_3 : g16 (sz + 3) = some (.inl (0, 4, .inl (fun _ => 0))) := (x16 _ (by omega)).trans a15_3
  have a16_4 : g16 (sz + 4) = some (.inl (0, 4, .inl (fun _ => 0))) := (x16 _ (by omega)).trans a15_4
  have a16_5 : g16 (sz + 5) = some (.inl (0, 4, .inl (fun _ => 0))) := (x16 _ (by omega)).trans a15_5
  have a16_6 : g16 (sz + 6) = some (.inl (0, 24, .inl (fun _ => 0))) := (x16 _ (by omega)).trans a15_6
  have a16_7 : g16 (sz + 7) = some (.inl (0, 4, .inl (fun _ => 0))) := (x16 _ (by omega)).trans a15_7
  refine ⟨g16, ?_, P.grow (arn := anX1 sz) (by decide) (by omega) b16 (o16.trans rfl) ?_ ?_⟩
  · refine ob_of e1 ?_
    refine ob_of e2 ?_
    refine bmp_of (m1 := 6) (s1 := 44) ?_ rfl rfl
    refine ob_of e4 ?_
    refine bmp_of (m1 := 5) (s1 := 40) ?_ rfl rfl
    refine ob_of e6 ?_
    refine bmp_of (m1 := 4) (s1 := 36) ?_ rfl rfl
    refine ob_of e8 ?_
    refine bmp_of (m1 := 3) (s1 := 32) ?_ rfl rfl
    refine ob_of e10 ?_
    refine bmp_of (m1 := 2) (s1 := 28) ?_ rfl rfl
    refine ob_of e12 ?_
    refine bmp_of (m1 := 1) (s1 := 4) ?_ rfl rfl
    refine ob_of e14 ?_
    refine bmp_of (m1 := 0) (s1 := 0) ?_ rfl rfl
    refine ob_of e16 ?_
    rfl
  · intro k hk hf
    rcases (show k = 0 ∨ k = 1 ∨ k = 2 ∨ k = 3 ∨ k = 4 ∨ k = 5 ∨ k = 6 ∨ k = 7 ∨ k = 8 by have : k < 9 := hk; omega) with rfl | rfl | rfl | rfl | rfl | rfl | rfl | rfl | rfl
    · exact absurd hf (by decide)
    · exact absurd hf (by decide)
    · exact ⟨a16_1, by show sz < sz + 1; omega, by show sz + 1 < _; omega⟩
    · exact ⟨a16_2, by show sz < sz + 2; omega, by show sz + 2 < _; omega⟩
    · exact ⟨a16_3, by show sz < sz + 3; omega, by show sz + 3 < _; omega⟩
    · exact ⟨a16_4, by show sz < sz + 4; omega, by show sz + 4 < _; omega⟩
    · exact ⟨a16_5, by show sz < sz + 5; omega, by show sz + 5 < _; omega⟩
    · exact ⟨a16_6, by show sz < sz + 6; omega, by show sz + 6 < _; omega⟩
    · exact ⟨a16_7, by show sz < sz + 7; omega, by show sz + 7 < _; omega⟩
  · intro k m hk hf hm hfm e
    rcases (show k = 0 ∨ k = 1 ∨ k = 2 ∨ k = 3 ∨ k = 4 ∨ k = 5 ∨ k = 6 ∨ k = 7 ∨ k = 8 by have : k < 9 := hk; omega) with rfl | rfl | rfl | rfl | rfl | rfl | rfl | rfl | rfl <;>
    first | exact absurd hf (by decide) | (rcases (show m = 0 ∨ m = 1 ∨ m = 2 ∨ m = 3 ∨ m = 4 ∨ m = 5 ∨ m = 6 ∨ m = 7 ∨ m = 8 by have : m < 9 := hm; omega) with rfl | rfl | rfl | rfl | rfl | rfl | rfl | rfl | rfl <;> first | rfl | exact absurd hfm (by decide) | (simp only [anX1] at e; omega))
theorem cuX1 {ar : Nat → Nat → Nat} {c0 : Nat → Nat} {sz : Nat} {g : PH} {w : HS} (P : Rel ar c0 sz g w) : ∃ g' ar' c', fX1_init (sz + 1) (hup g sz (.inr (1, dfX1))) sz = some ((), g', 7, 48) ∧ Rel ar' c' (sz + 1 + 7) g' (nwX1 w sz) ∧ Ext ar c0 ar' c' ∧ c' sz = 1 := by
  obtain ⟨g1, e1, P1, X1⟩ := ctX1 P
  exact ⟨g1, _, _, e1, P1, X1, if_pos rfl⟩
def nwX2 (w : HS) (a : Nat) : HS := nObj w a 2 (fun k => match k with | 4 => (-1) | _ => 0) (fun _ => 0) (fun _ => none) (fun _ _ => 0) (fun _ _ => 0) (fun _ _ => none)
def anX2 (sz : Nat) : Nat → Nat := fun k => match k with | 5 => sz + 1 | 6 => sz + 2 | 7 => sz + 3 | 8 => sz + 4 | _ => 0
set_option maxHeartbeats 4000000 in
set_option maxRecDepth 100000 in
theorem ctX2 {ar : Nat → Nat → Nat} {c0 : Nat → Nat} {sz : Nat} {g : PH} {w : HS} (P : Rel ar c0 sz g w) : ∃ g', fX2_init (sz + 1) (hup g sz (.inr (2, dfX2))) sz = some ((), g', 4, 72) ∧ Rel (fun b k => if b = sz then anX2 sz k else ar b k) (fun b => if b = sz then 2 else c0 b) (sz + 1 + 4) g' (nwX2 w sz) ∧ Ext ar c0 (fun b k => if b = sz then anX2 sz k else ar b k) (fun b => if b = sz then 2 else c0 b) := by
  have o0 : hup g sz (.inr (2, dfX2)) sz = some (.inr (2, [.int 0, .int 0, .int 0, .int 0, .int 0, .null, .null, .null, .null])) := hup_eq
  have b0 : ∀ b, b < sz → hup g sz (.inr (2, dfX2)) b = g b := fun b hb => hup_ne (by omega)
  unfold fX2_init
  obtain ⟨g1, e1, o1, x1⟩ := put_step (k := 0) (v := .int 0) (fs' := [.int 0, .int 0, .int 0, .int 0, .int 0, .null, .null, .null, .null]) o0 (Nat.le_of_ble_eq_true rfl) rfl
  have b1 : ∀ b, b < sz → g1 b = g b := fun b hb => (x1 b (by omega)).trans (b0 b hb)
  obtain ⟨g2, e2, o2, x2⟩ := put_step (k := 1) (v := .int 0) (fs' := [.int 0, .int 0, .int 0, .int 0, .int 0, .null, .null, .null, .null]) o1 (Nat.le_of_ble_eq_true rfl) rfl
  have b2 : ∀ b, b < sz → g2 b = g b := fun b hb => (x2 b (by omega)).trans (b1 b hb)
  obtain ⟨g3, e3, o3, x3⟩ := put_step (k := 2) (v := .int 0) (fs' := [.int 0, .int 0, .int 0, .int 0, .int 0, .null, .null, .null, .null]) o2 (Nat.le_of_ble_eq_true rfl) rfl
  have b3 : ∀ b, b < sz → g3 b = g b := fun b hb => (x3 b (by omega)).trans (b2 b hb)
  obtain ⟨g4, e4, o4, x4⟩ := put_step (k := 3) (v := .int 0) (fs' := [.int 0, .int 0, .int 0, .int 0, .int 0, .null, .null, .null, .null]) o3 (Nat.le_of_ble_eq_true rfl) rfl
  have b4 : ∀ b, b < sz → g4 b = g b := fun b hb => (x4 b (by omega)).trans (b3 b hb)
  obtain ⟨g5, e5, o5, x5⟩ := put_step (k := 4) (v := .int (-1)) (fs' := [.int 0, .int 0, .int 0, .int 0, .int (-1), .null, .null, .null, .null]) o4 (Nat.le_of_ble_eq_true rfl) rfl
  have b5 : ∀ b, b < sz → g5 b = g b := fun b hb => (x5 b (by omega)).trans (b4 b hb)
  have o6 : hup g5 (sz + 1) (.inl (0, 8, .inl (fun _ => 0))) sz = some (.inr (2, [.int 0, .int 0, .int 0, .int 0, .int (-1), .null, .null, .null, .null])) := (hup_ne (by omega)).trans o5
  have b6 : ∀ b, b < sz → hup g5 (sz + 1) (.inl (0, 8, .inl (fun _ => 0))) b = g b := fun b hb => (hup_ne (by omega)).trans (b5 b hb)
  have a6_1 : hup g5 (sz + 1) (.inl (0, 8, .inl (fun _ => 0))) (sz + 1) = some (.inl (0, 8, .inl (fun _ => 0))) := hup_eq
  obtain ⟨g7, e7, o7, x7⟩ := put_step (k := 5) (v := .ref (sz + 1)) (fs' := [.int 0, .int 0, .int 0, .int 0, .int (-1), .ref (sz + 1), .null, .null, .null]) o6 (Nat.le_of_ble_eq_true rfl) rfl
  have b7 : ∀ b, b < sz → g7 b = g b := fun b hb => (x7 b (by omega)).trans (b6 b hb)
  have a7_1 : g7 (sz + 1) = some (.inl (0, 8, .inl (fun _ => 0))) := (x7 _ (by omega)).trans a6_1
  have o8 : hup g7 (sz + 2) (.inl (0, 8, .inl (fun _ => 0))) sz = some (.inr (2, [.int 0, .int 0, .int 0, .int 0, .int (-1), .ref (sz + 1), .null, .null, .null])) := (hup_ne (by omega)).trans o7
  have b8 : ∀ b, b < sz → hup g7 (sz + 2) (.inl (0, 8, .inl (fun _ => 0))) b = g b := fun b hb => (hup_ne (by omega)).trans (b7 b hb)
  have a8_1 : hup g7 (sz + 2) (.inl (0, 8, .inl (fun _ => 0))) (sz + 1) = some (.inl (0, 8, .inl (fun _ => 0))) := (hup_ne (by omega)).trans a7_1
  have a8_2 : hup g7 (sz + 2) (.inl (0, 8, .inl (fun _ => 0))) (sz + 2) = some (.inl (0, 8, .inl (fun _ => 0))) := hup_eq
  obtain ⟨g9, e9, o9, x9⟩ := put_step (k := 6) (v := .ref (sz + 2)) (fs' := [.int 0, .int 0, .int 0, .int 0, .int (-1), .ref (sz + 1), .ref (sz + 2), .null, .null]) o8 (Nat.le_of_ble_eq_true rfl) rfl
  have b9 : ∀ b, b < sz → g9 b = g b := fun b hb => (x9 b (by omega)).trans (b8 b hb)
  have a9_1 : g9 (sz + 1) = some (.inl (0, 8, .inl (fun _ => 0))) := (x9 _ (by omega)).trans a8_1
  have a9_2 : g9 (sz + 2) = some (.inl (0, 8, .inl (fun _ => 0))) := (x9 _ (by omega)).trans a8_2
  have o10 : hup g9 (sz + 3) (.inl (0, 8, .inl (fun _ => 0))) sz = some (.inr (2, [.int 0, .int 0, .int 0, .int 0, .int (-1), .ref (sz + 1), .ref (sz + 2), .null, .null])) := (hup_ne (by omega)).trans o9
  have b10 : ∀ b, b < sz → hup g9 (sz + 3) (.inl (0, 8, .inl (fun _ => 0))) b = g b := fun b hb => (hup_ne (by omega)).trans (b9 b hb)
  have a10_1 : hup g9 (sz + 3) (.inl (0, 8, .inl (fun _ => 0))) (sz + 1) = some (.inl (0, 8, .inl (fun _ => 0))) := (hup_ne (by omega)).trans a9_1
  have a10_2 : hup g9 (sz + 3) (.inl (0, 8, .inl (fun _ => 0))) (sz + 2) = some (.inl (0, 8, .inl (fun _ => 0))) := (hup_ne (by omega)).trans a9_2
  have a10_3 : hup g9 (sz + 3) (.inl (0, 8, .inl (fun _ => 0))) (sz + 3) = some (.inl (0, 8, .inl (fun _ => 0))) := hup_eq
  obtain ⟨g11, e11, o11, x11⟩ := put_step (k := 7) (v := .ref (sz + 3)) (fs' := [.int 0, .int 0, .int 0, .int 0, .int (-1), .ref (sz + 1), .ref (sz + 2), .ref (sz + 3), .null]) o10 (Nat.le_of_ble_eq_true rfl) rfl
  have b11 : ∀ b, b < sz → g11 b = g b := fun b hb => (x11 b (by omega)).trans (b10 b hb)
  have a11_1 : g11 (sz + 1) = some (.inl (0, 8, .inl (fun _ => 0))) := (x11 _ (by omega)).trans a10_1
  have a11_2 : g11 (sz + 2) = some (.inl (0, 8, .inl (fun _ => 0))) := (x11 _ (by omega)).trans a10_2
  have a11_3 : g11 (sz + 3) = some (.inl (0, 8, .inl (fun _ => 0))) := (x11 _ (by omega)).trans a10_3
  have o12 : hup g11 (sz + 4) (.inl (0, 48, .inl (fun _ => 0))) sz = some (.inr (2, [.int 0, .int 0, .int 0, .int 0, .int (-1), .ref (sz + 1), .ref (sz + 2), .ref (sz + 3), .null])) := (hup_ne (by omega)).trans o11
  have b12 : ∀ b, b < sz → hup g11 (sz + 4) (.inl (0, 48, .inl (fun _ => 0))) b = g b := fun b hb => (hup_ne (by omega)).trans (b11 b hb)
  have a12_1 : hup g11 (sz + 4) (.inl (0, 48, .inl (fun _ => 0))) (sz + 1) = some (.inl (0, 8, .inl (fun _ => 0))) := (hup_ne (by omega)).trans a11_1
  have a12_2 : hup g11 (sz + 4) (.inl (0, 48, .inl (fun _ => 0))) (sz + 2) = some (.inl (0, 8, .inl (fun _ => 0))) := (hup_ne (by omega)).trans a11_2
  have a12_3 : hup g11 (sz + 4) (.inl (0, 48, .inl (fun _ => 0))) (sz + 3) = some (.inl (0, 8, .inl (fun _ => 0))) := (hup_ne (by omega)).trans a11_3
  have a12_4 : hup g11 (sz + 4) (.inl (0, 48, .inl (fun _ => 0))) (sz + 4) = some (.inl (0, 48, .inl (fun _ => 0))) := hup_eq
  obtain ⟨g13, e13, o13, x13⟩ := put_step (k := 8) (v := .ref (sz + 4)) (fs' := [.int 0, .int 0, .int 0, .int 0, .int (-1), .ref (sz + 1), .ref (sz + 2), .ref (sz + 3), .ref (sz + 4)]) o12 (Nat.le_of_ble_eq_true rfl) rfl
  have b13 : ∀ b, b < sz → g13 b = g b := fun b hb => (x13 b (by omega)).trans (b12 b hb)
  have a13_1 : g13 (sz + 1) = some (.inl (0, 8, .inl (fun _ => 0))) := (x13 _ (by omega)).trans a12_1
  have a13_2 : g13 (sz + 2) = some (.inl (0, 8, .inl (fun _ => 0))) := (x13 _ (by omega)).trans a12_2
  have a13_3 : g13 (sz + 3) = some (.inl (0, 8, .inl (fun _ => 0))) := (x13 _ (by omega)).trans a12_3
  have a13_4 : g13 (sz + 4) = some (.inl (0, 48, .inl (fun _ => 0))) := (x13 _ (by omega)).trans a12_4
  refine ⟨g13, ?_, P.grow (arn := anX2 sz) (by decide) (by omega) b13 (o13.trans rfl) ?_ ?_⟩
  · refine ob_of e1 ?_
    refine ob_of e2 ?_
    refine ob_of e3 ?_
    refine ob_of e4 ?_
    refine ob_of e5 ?_
    refine bmp_of (m1 := 3) (s1 := 64) ?_ rfl rfl
    refine ob_of e7 ?_
    refine bmp_of (m1 := 2) (s1 := 56) ?_ rfl rfl
    refine ob_of e9 ?_
    refine bmp_of (m1 := 1) (s1 := 48) ?_ rfl rfl
    refine ob_of e11 ?_
    refine bmp_of (m1 := 0) (s1 := 0) ?_ rfl rfl
    refine ob_of e13 ?_
    rfl
  · intro k hk hf
    rcases (show k = 0 ∨ k = 1 ∨ k = 2 ∨ k = 3 ∨ k = 4 ∨ k = 5 ∨ k = 6 ∨ k = 7 ∨ k = 8 by have : k < 9 := hk; omega) with rfl | rfl | rfl | rfl | rfl | rfl | rfl | rfl | rfl
    · exact absurd hf (by decide)
    · exact absurd hf (by decide)
    · exact absurd hf (by decide)
    · exact absurd hf (by decide)
    · exact absurd hf (by decide)
    · exact ⟨a13_1, by show sz < sz + 1; omega, by show sz + 1 < _; omega⟩
    · exact ⟨a13_2, by show sz < sz + 2; omega, by show sz + 2 < _; omega⟩
    · exact ⟨a13_3, by show sz < sz + 3; omega, by show sz + 3 < _; omega⟩
    · exact ⟨a13_4, by show sz < sz + 4; omega, by show sz + 4 < _; omega⟩
  · intro k m hk hf hm hfm e
    rcases (show k = 0 ∨ k = 1 ∨ k = 2 ∨ k = 3 ∨ k = 4 ∨ k = 5 ∨ k = 6 ∨ k = 7 ∨ k = 8 by have : k < 9 := hk; omega) with rfl | rfl | rfl | rfl | rfl | rfl | rfl | rfl | rfl <;>
    first | exact absurd hf (by decide) | (rcases (show m = 0 ∨ m = 1 ∨ m = 2 ∨ m = 3 ∨ m = 4 ∨ m = 5 ∨ m = 6 ∨ m = 7 ∨ m = 8 by have : m < 9 := hm; omega) with rfl | rfl | rfl | rfl | rfl | rfl | rfl | rfl | rfl <;> first | rfl | exact absurd hfm (by decide) | (simp only [anX2] at e; omega))
theorem cuX2 {ar : Nat → Nat → Nat} {c0 : Nat → Nat} {sz : Nat} {g : PH} {w : HS} (P : Rel ar c0 sz g w) : ∃ g' ar' c', fX2_init (sz + 1) (hup g sz (.inr (2, dfX2))) sz = some ((), g', 4, 72) ∧ Rel ar' c' (sz + 1 + 4) g' (nwX2 w sz) ∧ Ext ar c0 ar' c' ∧ c' sz = 2 := by
  obtain ⟨g1, e1, P1, X1⟩ := ctX2 P
  exact ⟨g1, _, _, e1, P1, X1, if_pos rfl⟩
def nwX3 (w : HS) (a : Nat) : HS := nObj w a 3 (fun k => match k with | 0 => 2 | 3 => (-1) | 4 => (-1) | 5 => (-1) | 6 => (-1) | 8 => (-1) | _ => 0) (fun _ => 0) (fun _ => none) (fun _ _ => 0) (fun _ _ => 0) (fun _ _ => none)
def anX3 (sz : Nat) : Nat → Nat := fun k => match k with | 10 => sz + 1 | 11 => sz + 2 | _ => 0
set_option maxHeartbeats 4000000 in
set_option maxRecDepth 100000 in
theorem ctX3 {ar : Nat → Nat → Nat} {c0 : Nat → Nat} {sz : Nat} {g : PH} {w : HS} (P : Rel ar c0 sz g w) : ∃ g', fX3_init (sz + 1) (hup g sz (.inr (3, dfX3))) sz = some ((), g', 2, 66) ∧ Rel (fun b k => if b = sz then anX3 sz k else ar b k) (fun b => if b = sz then 3 else c0 b) (sz + 1 + 2) g' (nwX3 w sz) ∧ Ext ar c0 (fun b k => if b = sz then anX3 sz k else ar b k) (fun b => if b = sz then 3 else c0 b) := by
  have o0 : hup g sz (.inr (3, dfX3)) sz = some (.inr (3, [.int 0, .int 0, .null, .int 0, .int 0, .int 0, .int 0, .int 0, .int 0, .int 0, .null, .null])) := hup_eq
  have b0 : ∀ b, b < sz → hup g sz (.inr (3, dfX3)) b = g b := fun b hb => hup_ne (by omega)
  unfold fX3_init
  obtain ⟨g1, e1, o1, x1⟩ := put_step (k := 0) (v := .int 2) (fs' := [.int 2, .int 0, .null, .int 0, .int 0, .int 0, .int 0, .int 0, .int 0, .int 0, .null, .null]) o0 (Nat.le_of_ble_eq_true rfl) rfl
  have b1 : ∀ b, b < sz → g1 b = g b := fun b hb => (x1 b (by omega)).trans (b0 b hb)
  obtain ⟨g2, e2, o2, x2⟩ := put_step (k := 1) (v := .int 0) (fs' := [.int 2, .int 0, .null, .int 0, .int 0, .int 0, .int 0, .int 0, .int 0, .int 0, .null, .null]) o1 (Nat.le_of_ble_eq_true rfl) rfl
  have b2 : ∀ b, b < sz → g2 b = g b := fun b hb => (x2 b (by omega)).trans (b1 b hb)
  obtain ⟨g3, e3, o3, x3⟩ := put_step (k := 2) (v := .null) (fs' := [.int 2, .int 0, .null, .int 0, .int 0, .int 0, .int 0, .int 0, .int 0, .int 0, .null, .null]) o2 (Nat.le_of_ble_eq_true rfl) rfl
  have b3 : ∀ b, b < sz → g3 b = g b := fun b hb => (x3 b (by omega)).trans (b2 b hb)
  obtain ⟨g4, e4, o4, x4⟩ := put_step (k := 3) (v := .int (-1)) (fs' := [.int 2, .int 0, .null, .int (-1), .int 0, .int 0, .int 0, .int 0, .int 0, .int 0, .null, .null]) o3 (Nat.le_of_ble_eq_true rfl) rfl
  have b4 : ∀ b, b < sz → g4 b = g b := fun b hb => (x4 b (by omega)).trans (b3 b hb)
  obtain ⟨g5, e5, o5, x5⟩ := put_step (k := 4) (v := .int (-1)) (fs' := [.int 2, .int 0, .null, .int (-1), .int (-1), .int 0, .int 0, .int 0, .int 0, .int 0, .null, .null]) o4 (Nat.le_of_ble_eq_true rfl) rfl
  have b5 : ∀ b, b < sz → g5 b = g b := fun b hb => (x5 b (by omega)).trans (b4 b hb)
  obtain ⟨g6, e6, o6, x6⟩ := put_step (k := 5) (v := .int (-1)) (fs' := [.int 2, .int 0, .null, .int (-1), .int (-1), .int (-1), .int 0, .int 0, .int 0, .int 0, .null, .null]) o5 (Nat.le_of_ble_eq_true rfl) rfl
  have b6 : ∀ b, b < sz → g6 b = g b := fun b hb => (x6 b (by omega)).trans (b5 b hb)
  obtain ⟨g7, e7, o7, x7⟩ := put_step (k := 6) (v := .int (-1)) (fs' := [.int 2, .int 0, .null, .int (-1), .int (-1), .int (-1), .int (-1), .int 0, .int 0, .int 0, .null, .null]) o6 (Nat.le_of_ble_eq_true rfl) rfl
  have b7 : ∀ b, b < sz → g7 b = g b := fun b hb => (x7 b (by omega)).trans (b6 b hb)
  obtain ⟨g8, e8, o8, x8⟩ := put_step (k := 7) (v := .int 0) (fs' := [.int 2, .int 0, .null, .int (-1), .int (-1), .int (-1), .int (-1), .int 0, .int 0, .int 0, .null, .null]) o7 (Nat.le_of_ble_eq_true rfl) rfl
  have b8 : ∀ b, b < sz → g8 b = g b := fun b hb => (x8 b (by omega)).trans (b7 b hb)
  obtain ⟨g9, e9, o9, x9⟩ := put_step (k := 8) (v := .int (-1)) (fs' := [.int 2, .int 0, .null, .int (-1), .int (-1), .int (-1), .int (-1), .int 0, .int (-1), .int 0, .null, .null]) o8 (Nat.le_of_ble_eq_true rfl) rfl
  have b9 : ∀ b, b < sz → g9 b = g b := fun b hb => (x9 b (by omega)).trans (b8 b hb)
  obtain ⟨g10, e10, o10, x10⟩ := put_step (k := 9) (v := .int 0) (fs' := [.int 2, .int 0, .null, .int (-1), .int (-1), .int (-1), .int (-1), .int 0, .int (-1), .int 0, .null, .null]) o9 (Nat.le_of_ble_eq_true rfl) rfl
  have b10 : ∀ b, b < sz → g10 b = g b := fun b hb => (x10 b (by omega)).trans (b9 b hb)
  have o11 : hup g10 (sz + 1) (.inl (0, 6, .inl (fun _ => 0))) sz = some (.inr (3, [.int 2, .int 0, .null, .int (-1), .int (-1), .int (-1), .int (-1), .int 0, .int (-1), .int 0, .null, .null])) := (hup_ne (by omega)).trans o10
  have b11 : ∀ b, b < sz → hup g10 (sz + 1) (.inl (0, 6, .inl (fun _ => 0))) b = g b := fun b hb => (hup_ne (by omega)).trans (b10 b hb)
  have a11_1 : hup g10 (sz + 1) (.inl (0, 6, .inl (fun _ => 0))) (sz + 1) = some (.inl (0, 6, .inl (fun _ => 0))) := hup_eq
  obtain ⟨g12, e12, o12, x12⟩ := put_step (k := 10) (v := .ref (sz + 1)) (fs' := [.int 2, .int 0, .null, .int (-1), .int (-1), .int (-1), .int (-1), .int 0, .int (-1), .int 0, .ref (sz + 1), .null]) o11 (Nat.le_of_ble_eq_true rfl) rfl
  have b12 : ∀ b, b < sz → g12 b = g b := fun b hb => (x12 b (by omega)).trans (b11 b hb)
  have a12_1 : g12 (sz + 1) = some (.inl (0, 6, .inl (fun _ => 0))) := (x12 _ (by omega)).trans a11_1
  have o13 : hup g12 (sz + 2) (.inl (0, 60, .inl (fun _ => 0))) sz = some (.inr (3, [.int 2, .int 0, .null, .int (-1), .int (-1), .int (-1), .int (-1), .int 0, .int (-1), .int 0, .ref (sz + 1), .null])) := (hup_ne (by omega)).trans o12
  have b13 : ∀ b, b < sz → hup g12 (sz + 2) (.inl (0, 60, .inl (fun _ => 0))) b = g b := fun b hb => (hup_ne (by omega)).trans (b12 b hb)
  have a13_1 : hup g12 (sz + 2) (.inl (0, 60, .inl (fun _ => 0))) (sz + 1) = some (.inl (0, 6, .inl (fun _ => 0))) := (hup_ne (by omega)).trans a12_1
  have a13_2 : hup g12 (sz + 2) (.inl (0, 60, .inl (fun _ => 0))) (sz + 2) = some (.inl (0, 60, .inl (fun _ => 0))) := hup_eq
  obtain ⟨g14, e14, o14, x14⟩ := put_step (k := 11) (v := .ref (sz + 2)) (fs' := [.int 2, .int 0, .null, .int (-1), .int (-1), .int (-1), .int (-1), .int 0, .int (-1), .int 0, .ref (sz + 1), .ref (sz + 2)]) o13 (Nat.le_of_ble_eq_true rfl) rfl
  have b14 : ∀ b, b < sz → g14 b = g b := fun b hb => (x14 b (by omega)).trans (b13 b hb)
  have a14_1 : g14 (sz + 1) = some (.inl (0, 6, .inl (fun _ => 0))) := (x14 _ (by omega)).trans a13_1
  have a14_2 : g14 (sz + 2) = some (.inl (0, 60, .inl (fun _ => 0))) := (x14 _ (by omega)).trans a13_2
  refine ⟨g14, ?_, P.grow (arn := anX3 sz) (by decide) (by omega) b14 (o14.trans rfl) ?_ ?_⟩
  · refine ob_of e1 ?_
    refine ob_of e2 ?_
    refine ob_of e3 ?_
    refine ob_of e4 ?_
    refine ob_of e5 ?_
    refine ob_of e6 ?_
    refine ob_of e7 ?_
    refine ob_of e8 ?_
    refine ob_of e9 ?_
    refine ob_of e10 ?_
    refine bmp_of (m1 := 1) (s1 := 60) ?_ rfl rfl
    refine ob_of e12 ?_
    refine bmp_of (m1 := 0) (s1 := 0) ?_ rfl rfl
    refine ob_of e14 ?_
    rfl
  · intro k hk hf
    rcases (show k = 0 ∨ k = 1 ∨ k = 2 ∨ k = 3 ∨ k = 4 ∨ k = 5 ∨ k = 6 ∨ k = 7 ∨ k = 8 ∨ k = 9 ∨ k = 10 ∨ k = 11 by have : k < 12 := hk; omega) with rfl | rfl | rfl | rfl | rfl | rfl | rfl | rfl | rfl | rfl | rfl | rfl
    · exact absurd hf (by decide)
    · exact absurd hf (by decide)
    · exact absurd hf (by decide)
    · exact absurd hf (by decide)
    · exact absurd hf (by decide)
    · exact absurd hf (by decide)
    · exact absurd hf (by decide)
    · exact absurd hf (by decide)
    · exact absurd hf (by decide)
    · exact absurd hf (by decide)
    · exact ⟨a14_1, by show sz < sz + 1; omega, by show sz + 1 < _; omega⟩
    · exact ⟨a14_2, by show sz < sz + 2; omega, by show sz + 2 < _; omega⟩
  · intro k m hk hf hm hfm e
    rcases (show k = 0 ∨ k = 1 ∨ k = 2 ∨ k = 3 ∨ k = 4 ∨ k = 5 ∨ k = 6 ∨ k = 7 ∨ k = 8 ∨ k = 9 ∨ k = 10 ∨ k = 11 by have : k < 12 := hk; omega) with rfl | rfl | rfl | rfl | rfl | rfl | rfl | rfl | rfl | rfl | rfl | rfl <;>
    first | exact absurd hf (by decide) | (rcases (show m = 0 ∨ m = 1 ∨ m = 2 ∨ m = 3 ∨ m = 4 ∨ m = 5 ∨ m = 6 ∨ m = 7 ∨ m = 8 ∨ m = 9 ∨ m = 10 ∨ m = 11 by have : m < 12 := hm; omega) with rfl | rfl | rfl | rfl | rfl | rfl | rfl | rfl | rfl | rfl | rfl | rfl <;> first | rfl | exact absurd hfm (by decide) | (simp only [anX3] at e; omega))
theorem cuX3 {ar : Nat → Nat → Nat} {c0 : Nat → Nat} {sz : Nat} {g : PH} {w : HS} (P : Rel ar c0 sz g w) : ∃ g' ar' c', fX3_init (sz + 1) (hup g sz (.inr (3, dfX3))) sz = some ((), g', 2, 66) ∧ Rel ar' c' (sz + 1 + 2) g' (nwX3 w sz) ∧ Ext ar c0 ar' c' ∧ c' sz = 3 := by
  obtain ⟨g1, e1, P1, X1⟩ := ctX3 P
  exact ⟨g1, _, _, e1, P1, X1, if_pos rfl⟩
def nwX5 (w : HS) (a : Nat) : HS := nObj w a 5 (fun _ => 0) (fun _ => 0) (fun _ => none) (fun _ _ => 0) (fun _ _ => 0) (fun _ _ => none)
def anX5 (sz : Nat) : Nat → Nat := fun k => match k with | 2 => sz + 1 | 3 => sz + 2 | 4 => sz + 3 | 5 => sz + 4 | _ => 0
set_option maxHeartbeats 4000000 in
set_option maxRecDepth 100000 in
theorem ctX5 {ar : Nat → Nat → Nat} {c0 : Nat → Nat} {sz : Nat} {g : PH} {w : HS} (P : Rel ar c0 sz g w) : ∃ g', fX5_init (sz + 1) (hup g sz (.inr (5, dfX5))) sz = some ((), g', 4, 1920) ∧ Rel (fun b k => if b = sz then anX5 sz k else ar b k) (fun b => if b = sz then 5 else c0 b) (sz + 1 + 4) g' (nwX5 w sz) ∧ Ext ar c0 (fun b k => if b = sz then anX5 sz k else ar b k) (fun b => if b = sz then 5 else c0 b) := by
  have o0 : hup g sz (.inr (5, dfX5)) sz = some (.inr (5, [.int 0, .int 0, .null, .null, .null, .null])) := hup_eq
  have b0 : ∀ b, b < sz → hup g sz (.inr (5, dfX5)) b = g b := fun b hb => hup_ne (by omega)
  unfold fX5_init
  obtain ⟨g1, e1, o1, x1⟩ := put_step (k := 0) (v := .int 0) (fs' := [.int 0, .int 0, .null, .null, .null, .null]) o0 (Nat.le_of_ble_eq_true rfl) rfl
  have b1 : ∀ b, b < sz → g1 b = g b := fun b hb => (x1 b (by omega)).trans (b0 b hb)
  obtain ⟨g2, e2, o2, x2⟩ := put_step (k := 1) (v := .int 0) (fs' := [.int 0, .int 0, .null, .null, .null, .null]) o1 (Nat.le_of_ble_eq_true rfl) rfl
  have b2 : ∀ b, b < sz → g2 b = g b := fun b hb => (x2 b (by omega)).trans (b1 b hb)
  have o3 : hup g2 (sz + 1) (.inl (0, 240, .inl (fun _ => 0))) sz = some (.inr (5, [.int 0, .int 0, .null, .null, .null, .null])) := (hup_ne (by omega)).trans o2
  have b3 : ∀ b, b < sz → hup g2 (sz + 1) (.inl (0, 240, .inl (fun _ => 0))) b = g b := fun b hb => (hup_ne (by omega)).trans (b2 b hb)
  have a3_1 : hup g2 (sz + 1) (.inl (0, 240, .inl (fun _ => 0))) (sz + 1) = some (.inl (0, 240, .inl (fun _ => 0))) := hup_eq
  obtain ⟨g4, e4, o4, x4⟩ := put_step (k := 2) (v := .ref (sz + 1)) (fs' := [.int 0, .int 0, .ref (sz + 1), .null, .null, .null]) o3 (Nat.le_of_ble_eq_true rfl) rfl
  have b4 : ∀ b, b < sz → g4 b = g b := fun b hb => (x4 b (by omega)).trans (b3 b hb)
  have a4_1 : g4 (sz + 1) = some (.inl (0, 240, .inl (fun _ => 0))) := (x4 _ (by omega)).trans a3_1
  have o5 : hup g4 (sz + 2) (.inl (0, 240, .inl (fun _ => 0))) sz = some (.inr (5, [.int 0, .int 0, .ref (sz + 1), .null, .null, .null])) := (hup_ne (by omega)).trans o4
  have b5 : ∀ b, b < sz → hup g4 (sz + 2) (.inl (0, 240, .inl (fun _ => 0))) b = g b := fun b hb => (hup_ne (by omega)).trans (b4 b hb)
  have a5_1 : hup g4 (sz + 2) (.inl (0, 240, .inl (fun _ => 0))) (sz + 1) = some (.inl (0, 240, .inl (fun _ => 0))) := (hup_ne (by omega)).trans a4_1
  have a5_2 : hup g4 (sz + 2) (.inl (0, 240, .inl (fun _ => 0))) (sz + 2) = some (.inl (0, 240, .inl (fun _ => 0))) := hup_eq
  obtain ⟨g6, e6, o6, x6⟩ := put_step (k := 3) (v := .ref (sz + 2)) (fs' := [.int 0, .int 0, .ref (sz + 1), .ref (sz + 2), .null, .null]) o5 (Nat.le_of_ble_eq_true rfl) rfl
  have b6 : ∀ b, b < sz → g6 b = g b := fun b hb => (x6 b (by omega)).trans (b5 b hb)
  have a6_1 : g6 (sz + 1) = some (.inl (0, 240, .inl (fun _ => 0))) := (x6 _ (by omega)).trans a5_1
  have a6_2 : g6 (sz + 2) = some (.inl (0, 240, .inl (fun _ => 0))) := (x6 _ (by omega)).trans a5_2
  have o7 : hup g6 (sz + 3) (.inl (0, 240, .inl (fun _ => 0))) sz = some (.inr (5, [.int 0, .int 0, .ref (sz + 1), .ref (sz + 2), .null, .null])) := (hup_ne (by omega)).trans o6
  have b7 : ∀ b, b < sz → hup g6 (sz + 3) (.inl (0, 240, .inl (fun _ => 0))) b = g b := fun b hb => (hup_ne (by omega)).trans (b6 b hb)
  have a7_1 : hup g6 (sz + 3) (.inl (0, 240, .inl (fun _ => 0))) (sz + 1) = some (.inl (0, 240, .inl (fun _ => 0))) := (hup_ne (by omega)).trans a6_1
  have a7_2 : hup g6 (sz + 3) (.inl (0, 240, .inl (fun _ => 0))) (sz + 2) = some (.inl (0, 240, .inl (fun _ => 0))) := (hup_ne (by omega)).trans a6_2
  have a7_3 : hup g6 (sz + 3) (.inl (0, 240, .inl (fun _ => 0))) (sz + 3) = some (.inl (0, 240, .inl (fun _ => 0))) := hup_eq
  obtain ⟨g8, e8, o8, x8⟩ := put_step (k := 4) (v := .ref (sz + 3)) (fs' := [.int 0, .int 0, .ref (sz + 1), .ref (sz + 2), .ref (sz + 3), .null]) o7 (Nat.le_of_ble_eq_true rfl) rfl
  have b8 : ∀ b, b < sz → g8 b = g b := fun b hb => (x8 b (by omega)).trans (b7 b hb)
  have a8_1 : g8 (sz + 1) = some (.inl (0, 240, .inl (fun _ => 0))) := (x8 _ (by omega)).trans a7_1
  have a8_2 : g8 (sz + 2) = some (.inl (0, 240, .inl (fun _ => 0))) := (x8 _ (by omega)).trans a7_2
  have a8_3 : g8 (sz + 3) = some (.inl (0, 240, .inl (fun _ => 0))) := (x8 _ (by omega)).trans a7_3
  have o9 : hup g8 (sz + 4) (.inl (2, 1200, .inr (.inl (fun _ => 0)))) sz = some (.inr (5, [.int 0, .int 0, .ref (sz + 1), .ref (sz + 2), .ref (sz + 3), .null])) := (hup_ne (by omega)).trans o8
  have b9 : ∀ b, b < sz → hup g8 (sz + 4) (.inl (2, 1200, .inr (.inl (fun _ => 0)))) b = g b := fun b hb => (hup_ne (by omega)).trans (b8 b hb)
  have a9_1 : hup g8 (sz + 4) (.inl (2, 1200, .inr (.inl (fun _ => 0)))) (sz + 1) = some (.inl (0, 240, .inl (fun _ => 0))) := (hup_ne (by omega)).trans a8_1
  have a9_2 : hup g8 (sz + 4) (.inl (2, 1200, .inr (.inl (fun _ => 0)))) (sz + 2) = some (.inl (0, 240, .inl (fun _ => 0))) := (hup_ne (by omega)).trans a8_2
  have a9_3 : hup g8 (sz + 4) (.inl (2, 1200, .inr (.inl (fun _ => 0)))) (sz + 3) = some (.inl (0, 240, .inl (fun _ => 0))) := (hup_ne (by omega)).trans a8_3
  have a9_4 : hup g8 (sz + 4) (.inl (2, 1200, .inr (.inl (fun _ => 0)))) (sz + 4) = some (.inl (2, 1200, .inr (.inl (fun _ => 0)))) := hup_eq
  obtain ⟨g10, e10, o10, x10⟩ := put_step (k := 5) (v := .ref (sz + 4)) (fs' := [.int 0, .int 0, .ref (sz + 1), .ref (sz + 2), .ref (sz + 3), .ref (sz + 4)]) o9 (Nat.le_of_ble_eq_true rfl) rfl
  have b10 : ∀ b, b < sz → g10 b = g b := fun b hb => (x10 b (by omega)).trans (b9 b hb)
  have a10_1 : g10 (sz + 1) = some (.inl (0, 240, .inl (fun _ => 0))) := (x10 _ (by omega)).trans a9_1
  have a10_2 : g10 (sz + 2) = some (.inl (0, 240, .inl (fun _ => 0))) := (x10 _ (by omega)).trans a9_2
  have a10_3 : g10 (sz + 3) = some (.inl (0, 240, .inl (fun _ => 0))) := (x10 _ (by omega)).trans a9_3
  have a10_4 : g10 (sz + 4) = some (.inl (2, 1200, .inr (.inl (fun _ => 0)))) := (x10 _ (by omega)).trans a9_4
  refine ⟨g10, ?_, P.grow (arn := anX5 sz) (by decide) (by omega) b10 (o10.trans rfl) ?_ ?_⟩
  · refine ob_of e1 ?_
    refine ob_of e2 ?_
    refine bmp_of (m1 := 3) (s1 := 1680) ?_ rfl rfl
    refine ob_of e4 ?_
    refine bmp_of (m1 := 2) (s1 := 1440) ?_ rfl rfl
    refine ob_of e6 ?_
    refine bmp_of (m1 := 1) (s1 := 1200) ?_ rfl rfl
    refine ob_of e8 ?_
    refine bmp_of (m1 := 0) (s1 := 0) ?_ rfl rfl
    refine ob_of e10 ?_
    rfl
  · intro k hk hf
    rcases (show k = 0 ∨ k = 1 ∨ k = 2 ∨ k = 3 ∨ k = 4 ∨ k = 5 by have : k < 6 := hk; omega) with rfl | rfl | rfl | rfl | rfl | rfl
    · exact absurd hf (by decide)
    · exact absurd hf (by decide)
    · exact ⟨a10_1, by show sz < sz + 1; omega, by show sz + 1 < _; omega⟩
    · exact ⟨a10_2, by show sz < sz + 2; omega, by show sz + 2 < _; omega⟩
    · exact ⟨a10_3, by show sz < sz + 3; omega, by show sz + 3 < _; omega⟩
    · exact ⟨a10_4, by show sz < sz + 4; omega, by show sz + 4 < _; omega⟩
  · intro k m hk hf hm hfm e
    rcases (show k = 0 ∨ k = 1 ∨ k = 2 ∨ k = 3 ∨ k = 4 ∨ k = 5 by have : k < 6 := hk; omega) with rfl | rfl | rfl | rfl | rfl | rfl <;>
    first | exact absurd hf (by decide) | (rcases (show m = 0 ∨ m = 1 ∨ m = 2 ∨ m = 3 ∨ m = 4 ∨ m = 5 by have : m < 6 := hm; omega) with rfl | rfl | rfl | rfl | rfl | rfl <;> first | rfl | exact absurd hfm (by decide) | (simp only [anX5] at e; omega))
theorem cuX5 {ar : Nat → Nat → Nat} {c0 : Nat → Nat} {sz : Nat} {g : PH} {w : HS} (P : Rel ar c0 sz g w) : ∃ g' ar' c', fX5_init (sz + 1) (hup g sz (.inr (5, dfX5))) sz = some ((), g', 4, 1920) ∧ Rel ar' c' (sz + 1 + 4) g' (nwX5 w sz) ∧ Ext ar c0 ar' c' ∧ c' sz = 5 := by
  obtain ⟨g1, e1, P1, X1⟩ := ctX5 P
  exact ⟨g1, _, _, e1, P1, X1, if_pos rfl⟩
def nwX6 (w : HS) (a : Nat) : HS := nObj w a 6 (fun _ => 0) (fun _ => 0) (fun _ => none) (fun _ _ => 0) (fun _ _ => 0) (fun _ _ => none)
def anX6 (sz : Nat) : Nat → Nat := fun k => match k with | 0 => sz + 1 | _ => 0
set_option maxHeartbeats 4000000 in
set_option maxRecDepth 100000 in
theorem ctX6 {ar : Nat → Nat → Nat} {c0 : Nat → Nat} {sz : Nat} {g : PH} {w : HS} (P : Rel ar c0 sz g w) : ∃ g', fX6_init (sz + 1) (hup g sz (.inr (6, dfX6))) sz = some ((), g', 1, 200) ∧ Rel (fun b k => if b = sz then anX6 sz k else ar b k) (fun b => if b = sz then 6 else c0 b) (sz + 1 + 1) g' (nwX6 w sz) ∧ Ext ar c0 (fun b k => if b = sz then anX6 sz k else ar b k) (fun b => if b = sz then 6 else c0 b) := by
  have o0 : hup g sz (.inr (6, dfX6)) sz = some (.inr (6, [.null, .int 0, .int 0, .int 0])) := hup_eq
  have b0 : ∀ b, b < sz → hup g sz (.inr (6, dfX6)) b = g b := fun b hb => hup_ne (by omega)
  unfold fX6_init
  have o1 : hup (hup g sz (.inr (6, dfX6))) (sz + 1) (.inl (1, 200, .inl (fun _ => 0))) sz = some (.inr (6, [.null, .int 0, .int 0, .int 0])) := (hup_ne (by omega)).trans o0
  have b1 : ∀ b, b < sz → hup (hup g sz (.inr (6, dfX6))) (sz + 1) (.inl (1, 200, .inl (fun _ => 0))) b = g b := fun b hb => (hup_ne (by omega)).trans (b0 b hb)
  have a1_1 : hup (hup g sz (.inr (6, dfX6))) (sz + 1) (.inl (1, 200, .inl (fun _ => 0))) (sz + 1) = some (.inl (1, 200, .inl (fun _ => 0))) := hup_eq
  obtain ⟨g2, e2, o2, x2⟩ := put_step (k := 0) (v := .ref (sz + 1)) (fs' := [.ref (sz + 1), .int 0, .int 0, .int 0]) o1 (Nat.le_of_ble_eq_true rfl) rfl
  have b2 : ∀ b, b < sz → g2 b = g b := fun b hb => (x2 b (by omega)).trans (b1 b hb)
  have a2_1 : g2 (sz + 1) = some (.inl (1, 200, .inl (fun _ => 0))) := (x2 _ (by omega)).trans a1_1
  obtain ⟨g3, e3, o3, x3⟩ := put_step (k := 1) (v := .int 0) (fs' := [.ref (sz + 1), .int 0, .int 0, .int 0]) o2 (Nat.le_of_ble_eq_true rfl) rfl
  have b3 : ∀ b, b < sz → g3 b = g b := fun b hb => (x3 b (by omega)).trans (b2 b hb)
  have a3_1 : g3 (sz + 1) = some (.inl (1, 200, .inl (fun _ => 0))) := (x3 _ (by omega)).trans a2_1
  obtain ⟨g4, e4, o4, x4⟩ := put_step (k := 2) (v := .int 0) (fs' := [.ref (sz + 1), .int 0, .int 0, .int 0]) o3 (Nat.le_of_ble_eq_true rfl) rfl
  have b4 : ∀ b, b < sz → g4 b = g b := fun b hb => (x4 b (by omega)).trans (b3 b hb)
  have a4_1 : g4 (sz + 1) = some (.inl (1, 200, .inl (fun _ => 0))) := (x4 _ (by omega)).trans a3_1
  obtain ⟨g5, e5, o5, x5⟩ := put_step (k := 3) (v := .int 0) (fs' := [.ref (sz + 1), .int 0, .int 0, .int 0]) o4 (Nat.le_of_ble_eq_true rfl) rfl
  have b5 : ∀ b, b < sz → g5 b = g b := fun b hb => (x5 b (by omega)).trans (b4 b hb)
  have a5_1 : g5 (sz + 1) = some (.inl (1, 200, .inl (fun _ => 0))) := (x5 _ (by omega)).trans a4_1
  refine ⟨g5, ?_, P.grow (arn := anX6 sz) (by decide) (by omega) b5 (o5.trans rfl) ?_ ?_⟩
  · refine bmp_of (m1 := 0) (s1 := 0) ?_ rfl rfl
    refine ob_of e2 ?_
    refine ob_of e3 ?_
    refine ob_of e4 ?_
    refine ob_of e5 ?_
    rfl
  · intro k hk hf
    rcases (show k = 0 ∨ k = 1 ∨ k = 2 ∨ k = 3 by have : k < 4 := hk; omega) with rfl | rfl | rfl | rfl
    · exact ⟨a5_1, by show sz < sz + 1; omega, by show sz + 1 < _; omega⟩
    · exact absurd hf (by decide)
    · exact absurd hf (by decide)
    · exact absurd hf (by decide)
  · intro k m hk hf hm hfm e
    rcases (show k = 0 ∨ k = 1 ∨ k = 2 ∨ k = 3 by have : k < 4 := hk; omega) with rfl | rfl | rfl | rfl <;>
    first | exact absurd hf (by decide) | (rcases (show m = 0 ∨ m = 1 ∨ m = 2 ∨ m = 3 by have : m < 4 := hm; omega) with rfl | rfl | rfl | rfl <;> first | rfl | exact absurd hfm (by decide) | (simp only [anX6] at e; omega))
theorem cuX6 {ar : Nat → Nat → Nat} {c0 : Nat → Nat} {sz : Nat} {g : PH} {w : HS} (P : Rel ar c0 sz g w) : ∃ g' ar' c', fX6_init (sz + 1) (hup g sz (.inr (6, dfX6))) sz = some ((), g', 1, 200) ∧ Rel ar' c' (sz + 1 + 1) g' (nwX6 w sz) ∧ Ext ar c0 ar' c' ∧ c' sz = 6 := by
  obtain ⟨g1, e1, P1, X1⟩ := ctX6 P
  exact ⟨g1, _, _, e1, P1, X1, if_pos rfl⟩
def nwX7 (w : HS) (a : Nat) : HS := nObj w a 7 (fun k => match k with | 1 => 1 | 3 => 2 | _ => 0) (fun _ => 0) (fun _ => none) (fun _ _ => 0) (fun _ _ => 0) (fun _ _ => none)
def anX7 (sz : Nat) : Nat → Nat := fun k => match k with | 5 => sz + 1 | _ => 0
set_option maxHeartbeats 4000000 in
set_option maxRecDepth 100000 in
theorem ctX7 {ar : Nat → Nat → Nat} {c0 : Nat → Nat} {sz : Nat} {g : PH} {w : HS} (P : Rel ar c0 sz g w) : ∃ g', fX7_init (sz + 1) (hup g sz (.inr (7, dfX7))) sz = some ((), g', 1, 60) ∧ Rel (fun b k => if b = sz then anX7 sz k else ar b k) (fun b => if b = sz then 7 else c0 b) (sz + 1 + 1) g' (nwX7 w sz) ∧ Ext ar c0 (fun b k => if b = sz then anX7 sz k else ar b k) (fun b => if b = sz then 7 else c0 b) := by
  have o0 : hup g sz (.inr (7, dfX7)) sz = some (.inr (7, [.int 0, .int 0, .int 0, .int 0, .int 0, .null])) := hup_eq
  have b0 : ∀ b, b < sz → hup g sz (.inr (7, dfX7)) b = g b := fun b hb => hup_ne (by omega)
  unfold fX7_init
  obtain ⟨g1, e1, o1, x1⟩ := put_step (k := 0) (v := .int 0) (fs' := [.int 0, .int 0, .int 0, .int 0, .int 0, .null]) o0 (Nat.le_of_ble_eq_true rfl) rfl
  have b1 : ∀ b, b < sz → g1 b = g b := fun b hb => (x1 b (by omega)).trans (b0 b hb)
  obtain ⟨g2, e2, o2, x2⟩ := put_step (k := 1) (v := .int 1) (fs' := [.int 0, .int 1, .int 0, .int 0, .int 0, .null]) o1 (Nat.le_of_ble_eq_true rfl) rfl
  have b2 : ∀ b, b < sz → g2 b = g b := fun b hb => (x2 b (by omega)).trans (b1 b hb)
  obtain ⟨g3, e3, o3, x3⟩ := put_step (k := 2) (v := .int 0) (fs' := [.int 0, .int 1, .int 0, .int 0, .int 0, .null]) o2 (Nat.le_of_ble_eq_true rfl) rfl
  have b3 : ∀ b, b < sz → g3 b = g b := fun b hb => (x3 b (by omega)).trans (b2 b hb)
  obtain ⟨g4, e4, o4, x4⟩ := put_step (k := 3) (v := .int 2) (fs' := [.int 0, .int 1, .int 0, .int 2, .int 0, .null]) o3 (Nat.le_of_ble_eq_true rfl) rfl
  have b4 : ∀ b, b < sz → g4 b = g b := fun b hb => (x4 b (by omega)).trans (b3 b hb)
  obtain ⟨g5, e5, o5, x5⟩ := put_step (k := 4) (v := .int 0) (fs' := [.int 0, .int 1, .int 0, .int 2, .int 0, .null]) o4 (Nat.le_of_ble_eq_true rfl) rfl
  have b5 : ∀ b, b < sz → g5 b = g b := fun b hb => (x5 b (by omega)).trans (b4 b hb)
  have o6 : hup g5 (sz + 1) (.inl (0, 60, .inl (fun _ => 0))) sz = some (.inr (7, [.int 0, .int 1, .int 0, .int 2, .int 0, .null])) := (hup_ne (by omega)).trans o5
  have b6 : ∀ b, b < sz → hup g5 (sz + 1) (.inl (0, 60, .inl (fun _ => 0))) b = g b := fun b hb => (hup_ne (by omega)).trans (b5 b hb)
  have a6_1 : hup g5 (sz + 1) (.inl (0, 60, .inl (fun _ => 0))) (sz + 1) = some (.inl (0, 60, .inl (fun _ => 0))) := hup_eq
  obtain ⟨g7, e7, o7, x7⟩ := put_step (k := 5) (v := .ref (sz + 1)) (fs' := [.int 0, .int 1, .int 0, .int 2, .int 0, .ref (sz + 1)]) o6 (Nat.le_of_ble_eq_true rfl) rfl
  have b7 : ∀ b, b < sz → g7 b = g b := fun b hb => (x7 b (by omega)).trans (b6 b hb)
  have a7_1 : g7 (sz + 1) = some (.inl (0, 60, .inl (fun _ => 0))) := (x7 _ (by omega)).trans a6_1
  refine ⟨g7, ?_, P.grow (arn := anX7 sz) (by decide) (by omega) b7 (o7.trans rfl) ?_ ?_⟩
  · refine ob_of e1 ?_
    refine ob_of e2 ?_
    refine ob_of e3 ?_
    refine ob_of e4 ?_
    refine ob_of e5 ?_
    refine bmp_of (m1 := 0) (s1 := 0) ?_ rfl rfl
    refine ob_of e7 ?_
    rfl
  · intro k hk hf
    rcases (show k = 0 ∨ k = 1 ∨ k = 2 ∨ k = 3 ∨ k = 4 ∨ k = 5 by have : k < 6 := hk; omega) with rfl | rfl | rfl | rfl | rfl | rfl
    · exact absurd hf (by decide)
    · exact absurd hf (by decide)
    · exact absurd hf (by decide)
    · exact absurd hf (by decide)
    · exact absurd hf (by decide)
    · exact ⟨a7_1, by show sz < sz + 1; omega, by show sz + 1 < _; omega⟩
  · intro k m hk hf hm hfm e
    rcases (show k = 0 ∨ k = 1 ∨ k = 2 ∨ k = 3 ∨ k = 4 ∨ k = 5 by have : k < 6 := hk; omega) with rfl | rfl | rfl | rfl | rfl | rfl <;>
    first | exact absurd hf (by decide) | (rcases (show m = 0 ∨ m = 1 ∨ m = 2 ∨ m = 3 ∨ m = 4 ∨ m = 5 by have : m < 6 := hm; omega) with rfl | rfl | rfl | rfl | rfl | rfl <;> first | rfl | exact absurd hfm (by decide) | (simp only [anX7] at e; omega))
theorem cuX7 {ar : Nat → Nat → Nat} {c0 : Nat → Nat} {sz : Nat} {g : PH} {w : HS} (P : Rel ar c0 sz g w) : ∃ g' ar' c', fX7_init (sz + 1) (hup g sz (.inr (7, dfX7))) sz = some ((), g', 1, 60) ∧ Rel ar' c' (sz + 1 + 1) g' (nwX7 w sz) ∧ Ext ar c0 ar' c' ∧ c' sz = 7 := by
  obtain ⟨g1, e1, P1, X1⟩ := ctX7 P
  exact ⟨g1, _, _, e1, P1, X1, if_pos rfl⟩
def nwX0 (w : HS) (a : Nat) : HS := nObj w a 0 (fun _ => 0) (fun _ => 0) (fun _ => none) (fun _ _ => 0) (fun _ _ => 0) (fun _ _ => none)
def anX0 (sz : Nat) : Nat → Nat := fun k => match k with | 2 => sz + 1 | _ => 0
set_option maxHeartbeats 4000000 in
set_option maxRecDepth 100000 in
theorem ctX0 {ar : Nat → Nat → Nat} {c0 : Nat → Nat} {sz : Nat} {g : PH} {w : HS} (P : Rel ar c0 sz g w) : ∃ g', fX0_init (sz + 1) (hup g sz (.inr (0, dfX0))) sz = some ((), g', 1, 20) ∧ Rel (fun b k => if b = sz then anX0 sz k else ar b k) (fun b => if b = sz then 0 else c0 b) (sz + 1 + 1) g' (nwX0 w sz) ∧ Ext ar c0 (fun b k => if b = sz then anX0 sz k else ar b k) (fun b => if b = sz then 0 else c0 b) := by
  have o0 : hup g sz (.inr (0, dfX0)) sz = some (.inr (0, [.int 0, .int 0, .null])) := hup_eq
  have b0 : ∀ b, b < sz → hup g sz (.inr (0, dfX0)) b = g b := fun b hb => hup_ne (by omega)
  unfold fX0_init
  obtain ⟨g1, e1, o1, x1⟩ := put_step (k := 0) (v := .int 0) (fs' := [.int 0, .int 0, .null]) o0 (Nat.le_of_ble_eq_true rfl) rfl
  have b1 : ∀ b, b < sz → g1 b = g b := fun b hb => (x1 b (by omega)).trans (b0 b hb)
  obtain ⟨g2, e2, o2, x2⟩ := put_step (k := 1) (v := .int 0) (fs' := [.int 0, .int 0, .null]) o1 (Nat.le_of_ble_eq_true rfl) rfl
  have b2 : ∀ b, b < sz → g2 b = g b := fun b hb => (x2 b (by omega)).trans (b1 b hb)
  have o3 : hup g2 (sz + 1) (.inl (6, 20, .inr (.inr (.inr (.inr (fun _ => none)))))) sz = some (.inr (0, [.int 0, .int 0, .null])) := (hup_ne (by omega)).trans o2
  have b3 : ∀ b, b < sz → hup g2 (sz + 1) (.inl (6, 20, .inr (.inr (.inr (.inr (fun _ => none)))))) b = g b := fun b hb => (hup_ne (by omega)).trans (b2 b hb)
  have a3_1 : hup g2 (sz + 1) (.inl (6, 20, .inr (.inr (.inr (.inr (fun _ => none)))))) (sz + 1) = some (.inl (6, 20, .inr (.inr (.inr (.inr (fun _ => none)))))) := hup_eq
  obtain ⟨g4, e4, o4, x4⟩ := put_step (k := 2) (v := .ref (sz + 1)) (fs' := [.int 0, .int 0, .ref (sz + 1)]) o3 (Nat.le_of_ble_eq_true rfl) rfl
  have b4 : ∀ b, b < sz → g4 b = g b := fun b hb => (x4 b (by omega)).trans (b3 b hb)
  have a4_1 : g4 (sz + 1) = some (.inl (6, 20, .inr (.inr (.inr (.inr (fun _ => none)))))) := (x4 _ (by omega)).trans a3_1
  refine ⟨g4, ?_, P.grow (arn := anX0 sz) (by decide) (by omega) b4 (o4.trans rfl) ?_ ?_⟩
  · refine ob_of e1 ?_
    refine ob_of e2 ?_
    refine bmp_of (m1 := 0) (s1 := 0) ?_ rfl rfl
    refine ob_of e4 ?_
    rfl
  · intro k hk hf
    rcases (show k = 0 ∨ k = 1 ∨ k = 2 by have : k < 3 := hk; omega) with rfl | rfl | rfl
    · exact absurd hf (by decide)
    · exact absurd hf (by decide)
    · exact ⟨a4_1, by show sz < sz + 1; omega, by show sz + 1 < _; omega⟩
  · intro k m hk hf hm hfm e
    rcases (show k = 0 ∨ k = 1 ∨ k = 2 by have : k < 3 := hk; omega) with rfl | rfl | rfl <;>
    first | exact absurd hf (by decide) | (rcases (show m = 0 ∨ m = 1 ∨ m = 2 by have : m < 3 := hm; omega) with rfl | rfl | rfl <;> first | rfl | exact absurd hfm (by decide) | (simp only [anX0] at e; omega))
theorem cuX0 {ar : Nat → Nat → Nat} {c0 : Nat → Nat} {sz : Nat} {g : PH} {w : HS} (P : Rel ar c0 sz g w) : ∃ g' ar' c', fX0_init (sz + 1) (hup g sz (.inr (0, dfX0))) sz = some ((), g', 1, 20) ∧ Rel ar' c' (sz + 1 + 1) g' (nwX0 w sz) ∧ Ext ar c0 ar' c' ∧ c' sz = 0 := by
  obtain ⟨g1, e1, P1, X1⟩ := ctX0 P
  exact ⟨g1, _, _, e1, P1, X1, if_pos rfl⟩
