def FX4_init_196 (k134 : HS → Nat → Nat → Int32 → Option (Unit × HS × Nat × Nat)) (k145 : HS → Nat → Nat → Int32 → Int32 → Option (Unit × HS × Nat × Nat)) : Nat → HS → Nat → Nat → Int32 → Int32 → Int32 → Int32 → Option (Unit × HS × Nat × Nat)
  | 0, _, _, _, _, _, _, _ => none
  | n + 1, w, sz, v0, v1, v2, v3, v4 =>
  if v4 < 0 then (k145 w sz v0 v1 (v2 + (1 : Int32))) else
  (okb (inb ((v2 * (3 : Int32)) + v4) 234) (bnd (setA w v0 4 ((v2 * (3 : Int32)) + v4).toNatClampNeg (v3 - v3 / (3 : Int32) * (3 : Int32))) fun w5 =>
  (FX4_init_196 k134 k145 n w5 sz v0 v1 v2 (v3 / (3 : Int32)) (v4 + (-1 : Int32)))))
set_option maxHeartbeats 4000000 in
set_option maxRecDepth 100000 in
theorem rX4_init_196 {ar : Nat → Nat → Nat} {c0 : Nat → Nat} {sz : Nat} {r : Unit} {w' : HS} {k134 : HS → Nat → Nat → Int32 → Option (Unit × HS × Nat × Nat)} {j134 : PH → Nat → Nat → Int32 → Option (Unit × PH × Nat × Nat)} {k145 : HS → Nat → Nat → Int32 → Int32 → Option (Unit × HS × Nat × Nat)} {j145 : PH → Nat → Nat → Int32 → Int32 → Option (Unit × PH × Nat × Nat)} (hk134 : ∀ (g : PH) (w : HS) (v0 : Nat) (v1 : Int32) (mc ms : Nat), c0 v0 = 4 → Rel ar c0 sz g w → k134 w sz v0 v1 = some (r, w', mc, ms) → GA ar c0 sz r w' mc ms (j134 g sz v0 v1)) (hk145 : ∀ (g : PH) (w : HS) (v0 : Nat) (v1 : Int32) (v2 : Int32) (mc ms : Nat), c0 v0 = 4 → Rel ar c0 sz g w → k145 w sz v0 v1 v2 = some (r, w', mc, ms) → GA ar c0 sz r w' mc ms (j145 g sz v0 v1 v2)) : ∀ (n : Nat) (g : PH) (w : HS) (v0 : Nat) (v1 : Int32) (v2 : Int32) (v3 : Int32) (v4 : Int32) (mc ms : Nat), c0 v0 = 4 → Rel ar c0 sz g w → FX4_init_196 k134 k145 n w sz v0 v1 v2 v3 v4 = some (r, w', mc, ms) → GA ar c0 sz r w' mc ms (fX4_init_196 j134 j145 n g sz v0 v1 v2 v3 v4) := by
  intro n
  induction n with
  | zero =>
    intro g w v0 v1 v2 v3 v4 mc ms h0 P hF
    rw [FX4_init_196] at hF
    cases hF
  | succ n ih =>
    intro g w v0 v1 v2 v3 v4 mc ms h0 P hF
    rw [FX4_init_196] at hF
    rw [fX4_init_196]
    by_cases c1 : v4 < 0
    · replace hF := ite_t c1 hF
      refine GA.t c1 ?_
      exact hk145 _ _ _ _ _ _ _ h0 P hF
    replace hF := ite_f c1 hF
    refine GA.f c1 ?_
    refine GA.bind (P.getRa (k := 4) h0 (by decide) (by decide) (by decide)) ?_
    replace hF := okb_some hF
    obtain ⟨h2, hF⟩ := hF
    replace hF := bnd_e hF
    obtain ⟨w5, e6, hF⟩ := hF
    obtain ⟨g3, e4, P⟩ := P.sI (k := 4) (kd := 0) (j := ((v2 * (3 : Int32)) + v4)) h0 (by decide) (by decide) (by decide) (by decide) h2 rfl e6
    refine GA.bind e4 ?_
    exact ih _ _ _ _ _ _ _ _ _ h0 P hF
def FX4_init_190 (k134 : HS → Nat → Nat → Int32 → Option (Unit × HS × Nat × Nat)) (k145 : HS → Nat → Nat → Int32 → Int32 → Option (Unit × HS × Nat × Nat)) (w : HS) (sz : Nat) (v0 : Nat) (v1 : Int32) (v2 : Int32) (v3 : Int32) (s0 : Int32) (s1 : Int32) (s2 : Nat) : Option (Unit × HS × Nat × Nat) :=
  okb (hc w s2 == 4) (okb (inb s1 78) (bnd (setA w s2 3 s1.toNatClampNeg (vp_nar .boolean s0)) fun w5 =>
  (FX4_init_196 (k134) (k145) FUEL w5 sz v0 v1 v2 v3 (v1 - (1 : Int32)))))
set_option maxHeartbeats 4000000 in
set_option maxRecDepth 100000 in
theorem rX4_init_190 {ar : Nat → Nat → Nat} {c0 : Nat → Nat} {sz : Nat} {r : Unit} {w' : HS} {k134 : HS → Nat → Nat → Int32 → Option (Unit × HS × Nat × Nat)} {j134 : PH → Nat → Nat → Int32 → Option (Unit × PH × Nat × Nat)} {k145 : HS → Nat → Nat → Int32 → Int32 → Option (Unit × HS × Nat × Nat)} {j145 : PH → Nat → Nat → Int32 → Int32 → Option (Unit × PH × Nat × Nat)} (hk134 : ∀ (g : PH) (w : HS) (v0 : Nat) (v1 : Int32) (mc ms : Nat), c0 v0 = 4 → Rel ar c0 sz g w → k134 w sz v0 v1 = some (r, w', mc, ms) → GA ar c0 sz r w' mc ms (j134 g sz v0 v1)) (hk145 : ∀ (g : PH) (w : HS) (v0 : Nat) (v1 : Int32) (v2 : Int32) (mc ms : Nat), c0 v0 = 4 → Rel ar c0 sz g w → k145 w sz v0 v1 v2 = some (r, w', mc, ms) → GA ar c0 sz r w' mc ms (j145 g sz v0 v1 v2)) {g : PH} {w : HS} {v0 : Nat} {v1 : Int32} {v2 : Int32} {v3 : Int32} {s0 : Int32} {s1 : Int32} {s2 : Nat} {mc ms : Nat} (h0 : c0 v0 = 4) (P : Rel ar c0 sz g w) (hF : FX4_init_190 k134 k145 w sz v0 v1 v2 v3 s0 s1 s2 = some (r, w', mc, ms)) : GA ar c0 sz r w' mc ms (fX4_init_190 j134 j145 g sz v0 v1 v2 v3 s0 s1 (ar s2 3)) := by
  unfold FX4_init_190 at hF
  unfold fX4_init_190
  replace hF := okb_some hF
  obtain ⟨h1, hF⟩ := hF
  replace h1 := P.cls h1
  replace hF := okb_some hF
  obtain ⟨h2, hF⟩ := hF
  replace hF := bnd_e hF
  obtain ⟨w5, e6, hF⟩ := hF
  obtain ⟨g3, e4, P⟩ := P.sI (k := 3) (kd := 3) (j := s1) h1 (by decide) (by decide) (by decide) (by decide) h2 rfl e6
  refine GA.bind e4 ?_
  exact rX4_init_196 hk134 hk145 _ _ _ _ _ _ _ _ _ _ h0 P hF
def FX4_init_145 (k134 : HS → Nat → Nat → Int32 → Option (Unit × HS × Nat × Nat)) : Nat → HS → Nat → Nat → Int32 → Int32 → Option (Unit × HS × Nat × Nat)
  | 0, _, _, _, _, _ => none
  | n + 1, w, sz, v0, v1, v2 =>
  okb (inb (v1 + (1 : Int32)) (staB 0).length) (if ((staB 0).getD (v1 + (1 : Int32)).toNatClampNeg 0) ≤ v2 then (k134 w sz v0 (v1 + (1 : Int32))) else
  (okb (inb v1 (staB 0).length) (okb (inb v2 78) (bnd (setA w v0 2 v2.toNatClampNeg v1) fun w7 =>
  (okb (inb v1 (staB 1).length) (if (v2 - ((staB 0).getD v1.toNatClampNeg 0)) < ((staB 1).getD v1.toNatClampNeg 0) then (FX4_init_190 (k134) (FX4_init_145 k134 n) w7 sz v0 v1 v2 (v2 - ((staB 0).getD v1.toNatClampNeg 0)) (0 : Int32) v2 v0) else
  (FX4_init_190 (k134) (FX4_init_145 k134 n) w7 sz v0 v1 v2 (v2 - ((staB 0).getD v1.toNatClampNeg 0)) (1 : Int32) v2 v0)))))))
set_option maxHeartbeats 4000000 in
set_option maxRecDepth 100000 in
theorem rX4_init_145 {ar : Nat → Nat → Nat} {c0 : Nat → Nat} {sz : Nat} {r : Unit} {w' : HS} {k134 : HS → Nat → Nat → Int32 → Option (Unit × HS × Nat × Nat)} {j134 : PH → Nat → Nat → Int32 → Option (Unit × PH × Nat × Nat)} (hk134 : ∀ (g : PH) (w : HS) (v0 : Nat) (v1 : Int32) (mc ms : Nat), c0 v0 = 4 → Rel ar c0 sz g w → k134 w sz v0 v1 = some (r, w', mc, ms) → GA ar c0 sz r w' mc ms (j134 g sz v0 v1)) : ∀ (n : Nat) (g : PH) (w : HS) (v0 : Nat) (v1 : Int32) (v2 : Int32) (mc ms : Nat), c0 v0 = 4 → Rel ar c0 sz g w → FX4_init_145 k134 n w sz v0 v1 v2 = some (r, w', mc, ms) → GA ar c0 sz r w' mc ms (fX4_init_145 j134 n g sz v0 v1 v2) := by
  intro n
  induction n with
  | zero =>
    intro g w v0 v1 v2 mc ms h0 P hF
    rw [FX4_init_145] at hF
    cases hF
  | succ n ih =>
    intro g w v0 v1 v2 mc ms h0 P hF
    rw [FX4_init_145] at hF
    rw [fX4_init_145]
    replace hF := okb_some hF
    obtain ⟨h1, hF⟩ := hF
    refine GA.ok h1 ?_
    by_cases c2 : ((staB 0).getD (v1 + (1 : Int32)).toNatClampNeg 0) ≤ v2
    · replace hF := ite_t c2 hF
      refine GA.t c2 ?_
      exact hk134 _ _ _ _ _ _ h0 P hF
    replace hF := ite_f c2 hF
    refine GA.f c2 ?_
    replace hF := okb_some hF
    obtain ⟨h3, hF⟩ := hF
    refine GA.ok h3 ?_
    refine GA.bind (P.getRa (k := 2) h0 (by decide) (by decide) (by decide)) ?_
    replace hF := okb_some hF
    obtain ⟨h4, hF⟩ := hF
    replace hF := bnd_e hF
    obtain ⟨w7, e8, hF⟩ := hF
    obtain ⟨g5, e6, P⟩ := P.sI (k := 2) (kd := 0) (j := v2) h0 (by decide) (by decide) (by decide) (by decide) h4 rfl e8
    refine GA.bind e6 ?_
    refine GA.bind (P.getRa (k := 3) h0 (by decide) (by decide) (by decide)) ?_
    replace hF := okb_some hF
    obtain ⟨h9, hF⟩ := hF
    refine GA.ok h9 ?_
    by_cases c10 : (v2 - ((staB 0).getD v1.toNatClampNeg 0)) < ((staB 1).getD v1.toNatClampNeg 0)
    · replace hF := ite_t c10 hF
      refine GA.t c10 ?_
      exact rX4_init_190 hk134 ih h0 P hF
    replace hF := ite_f c10 hF
    refine GA.f c10 ?_
    exact rX4_init_190 hk134 ih h0 P hF
def FX4_init_134  : Nat → HS → Nat → Nat → Int32 → Option (Unit × HS × Nat × Nat)
  | 0, _, _, _, _ => none
  | n + 1, w, sz, v0, v1 =>
  if (3 : Int32) < v1 then (some ((), w, 0, 0)) else
  (okb (inb v1 (staB 0).length) (FX4_init_145 (FX4_init_134 n) FUEL w sz v0 v1 ((staB 0).getD v1.toNatClampNeg 0)))
set_option maxHeartbeats 4000000 in
set_option maxRecDepth 100000 in
theorem rX4_init_134 {ar : Nat → Nat → Nat} {c0 : Nat → Nat} {sz : Nat} {r : Unit} {w' : HS}   : ∀ (n : Nat) (g : PH) (w : HS) (v0 : Nat) (v1 : Int32) (mc ms : Nat), c0 v0 = 4 → Rel ar c0 sz g w → FX4_init_134  n w sz v0 v1 = some (r, w', mc, ms) → GA ar c0 sz r w' mc ms (fX4_init_134  n g sz v0 v1) := by
  intro n
  induction n with
  | zero =>
    intro g w v0 v1 mc ms h0 P hF
    rw [FX4_init_134] at hF
    cases hF
  | succ n ih =>
    intro g w v0 v1 mc ms h0 P hF
    rw [FX4_init_134] at hF
    rw [fX4_init_134]
    by_cases c1 : (3 : Int32) < v1
    · replace hF := ite_t c1 hF
      refine GA.t c1 ?_
      obtain ⟨f1, f2, f3, f4⟩ := fnW4 hF
      subst f1
      subst f2
      subst f3; subst f4; exact GA.ret P
    replace hF := ite_f c1 hF
    refine GA.f c1 ?_
    replace hF := okb_some hF
    obtain ⟨h2, hF⟩ := hF
    refine GA.ok h2 ?_
    exact rX4_init_145 ih _ _ _ _ _ _ _ _ h0 P hF
def nwX4 (w : HS) (a : Nat) : HS := nObj w a 4 (fun _ => 0) (fun _ => 0) (fun _ => none) (fun _ _ => 0) (fun _ _ => 0) (fun _ _ => none)
def anX4 (sz : Nat) : Nat → Nat := fun k => match k with | 0 => sz + 1 | 1 => sz + 2 | 2 => sz + 3 | 3 => sz + 4 | 4 => sz + 5 | 5 => sz + 6 | 7 => sz + 7 | 10 => sz + 8 | 11 => sz + 9 | 12 => sz + 10 | 13 => sz + 11 | 14 => sz + 12 | 15 => sz + 13 | _ => 0
def nsX4 (w : HS) (sz : Nat) : Option (Unit × HS × Nat × Nat) := bmw 13 20099 (FX4_init_134 FUEL (nwX4 w sz) (sz + 1 + 13) sz 1)
set_option maxHeartbeats 4000000 in
set_option maxRecDepth 100000 in
theorem ctX4 {ar : Nat → Nat → Nat} {c0 : Nat → Nat} {sz : Nat} {g : PH} {w : HS} {q : Unit × HS × Nat × Nat} (P : Rel ar c0 sz g w) (hF : nsX4 w sz = some q) : ∃ g' ar' c', fX4_init (sz + 1) (hup g sz (.inr (4, dfX4))) sz = some (q.1, g', q.2.2.1, q.2.2.2) ∧ Rel ar' c' (sz + 1 + q.2.2.1) g' q.2.1 ∧ Ext ar c0 ar' c' ∧ c' sz = 4 := by
  obtain ⟨qr, qw, qc, qs⟩ := q
  unfold nsX4 at hF
  obtain ⟨m1, s1, hF2, hm, hs⟩ := bmw_some hF
  clear hF
  subst hm; subst hs
  dsimp only
  have o0 : hup g sz (.inr (4, dfX4)) sz = some (.inr (4, [.null, .null, .null, .null, .null, .null, .int 0, .null, .int 0, .int 0, .null, .null, .null, .null, .null, .null])) := hup_eq
  have b0 : ∀ b, b < sz → hup g sz (.inr (4, dfX4)) b = g b := fun b hb => hup_ne (by omega)
  unfold fX4_init
  have o1 : hup (hup g sz (.inr (4, dfX4))) (sz + 1) (.inl (0, 256, .inl (fun _ => 0))) sz = some (.inr (4, [.null, .null, .null, .null, .null, .null, .int 0, .null, .int 0, .int 0, .null, .null, .null, .null, .null, .null])) := (hup_ne (by omega)).trans o0
  have b1 : ∀ b, b < sz → hup (hup g sz (.inr (4, dfX4))) (sz + 1) (.inl (0, 256, .inl (fun _ => 0))) b = g b := fun b hb => (hup_ne (by omega)).trans (b0 b hb)
  have a1_1 : hup (hup g sz (.inr (4, dfX4))) (sz + 1) (.inl (0, 256, .inl (fun _ => 0))) (sz + 1) = some (.inl (0, 256, .inl (fun _ => 0))) := hup_eq
  obtain ⟨g2, e2, o2, x2⟩ := put_step (k := 0) (v := .ref (sz + 1)) (fs' := [.ref (sz + 1), .null, .null, .null, .null, .null, .int 0, .null, .int 0, .int 0, .null, .null, .null, .null, .null, .null]) o1 (Nat.le_of_ble_eq_true rfl) rfl
  have b2 : ∀ b, b < sz → g2 b = g b := fun b hb => (x2 b (by omega)).trans (b1 b hb)
  have a2_1 : g2 (sz + 1) = some (.inl (0, 256, .inl (fun _ => 0))) := (x2 _ (by omega)).trans a1_1
  have o3 : hup g2 (sz + 2) (.inl (2, 256, .inr (.inl (fun _ => 0)))) sz = some (.inr (4, [.ref (sz + 1), .null, .null, .null, .null, .null, .int 0, .null, .int 0, .int 0, .null, .null, .null, .null, .null, .null])) := (hup_ne (by omega)).trans o2
  have b3 : ∀ b, b < sz → hup g2 (sz + 2) (.inl (2, 256, .inr (.inl (fun _ => 0)))) b = g b := fun b hb => (hup_ne (by omega)).trans (b2 b hb)
  have a3_1 : hup g2 (sz + 2) (.inl (2, 256, .inr (.inl (fun _ => 0)))) (sz + 1) = some (.inl (0, 256, .inl (fun _ => 0))) := (hup_ne (by omega)).trans a2_1
  have a3_2 : hup g2 (sz + 2) (.inl (2, 256, .inr (.inl (fun _ => 0)))) (sz + 2) = some (.inl (2, 256, .inr (.inl (fun _ => 0)))) := hup_eq
  obtain ⟨g4, e4, o4, x4⟩ := put_step (k := 1) (v := .ref (sz + 2)) (fs' := [.ref (sz + 1), .ref (sz + 2), .null, .null, .null, .null, .int 0, .null, .int 0, .int 0, .null, .null, .null, .null, .null, .null]) o3 (Nat.le_of_ble_eq_true rfl) rfl
  have b4 : ∀ b, b < sz → g4 b = g b := fun b hb => (x4 b (by omega)).trans (b3 b hb)
  have a4_1 : g4 (sz + 1) = some (.inl (0, 256, .inl (fun _ => 0))) := (x4 _ (by omega)).trans a3_1
  have a4_2 : g4 (sz + 2) = some (.inl (2, 256, .inr (.inl (fun _ => 0)))) := (x4 _ (by omega)).trans a3_2
  have o5 : hup g4 (sz + 3) (.inl (0, 78, .inl (fun _ => 0))) sz = some (.inr (4, [.ref (sz + 1), .ref (sz + 2), .null, .null, .null, .null, .int 0, .null, .int 0, .int 0, .null, .null, .null, .null, .null, .null])) := (hup_ne (by omega)).trans o4
  have b5 : ∀ b, b < sz → hup g4 (sz + 3) (.inl (0, 78, .inl (fun _ => 0))) b = g b := fun b hb => (hup_ne (by omega)).trans (b4 b hb)
  have a5_1 : hup g4 (sz + 3) (.inl (0, 78, .inl (fun _ => 0))) (sz + 1) = some (.inl (0, 256, .inl (fun _ => 0))) := (hup_ne (by omega)).trans a4_1
  have a5_2 : hup g4 (sz + 3) (.inl (0, 78, .inl (fun _ => 0))) (sz + 2) = some (.inl (2, 256, .inr (.inl (fun _ => 0)))) := (hup_ne (by omega)).trans a4_2
  have a5_3 : hup g4 (sz + 3) (.inl (0, 78, .inl (fun _ => 0))) (sz + 3) = some (.inl (0, 78, .inl (fun _ => 0))) := hup_eq
  obtain ⟨g6, e6, o6, x6⟩ := put_step (k := 2) (v := .ref (sz + 3)) (fs' := [.ref (sz + 1), .ref (sz + 2), .ref (sz + 3), .null, .null, .null, .int 0, .null, .int 0, .int 0, .null, .null, .null, .null, .null, .null]) o5 (Nat.le_of_ble_eq_true rfl) rfl
  have b6 : ∀ b, b < sz → g6 b = g b := fun b hb => (x6 b (by omega)).trans (b5 b hb)
  have a6_1 : g6 (sz + 1) = some (.inl (0, 256, .inl (fun _ => 0))) := (x6 _ (by omega)).trans a5_1
  have a6_2 : g6 (sz + 2) = some (.inl (2, 256, .inr (.inl (fun _ => 0)))) := (x6 _ (by omega)).trans a5_2
  have a6_3 : g6 (sz + 3) = some (.inl (0, 78, .inl (fun _ => 0))) := (x6 _ (by omega)).trans a5_3
  have o7 : hup g6 (sz + 4) (.inl (3, 78, .inl (fun _ => 0))) sz = some (.inr (4, [.ref (sz + 1), .ref (sz + 2), .ref (sz + 3), .null, .null, .null, .int 0, .null, .int 0, .int 0, .null, .null, .null, .null, .null, .null])) := (hup_ne (by omega)).trans o6
  have b7 : ∀ b, b < sz → hup g6 (sz + 4) (.inl (3, 78, .inl (fun _ => 0))) b = g b := fun b hb => (hup_ne (by omega)).trans (b6 b hb)
  have a7_1 : hup g6 (sz + 4) (.inl (3, 78, .inl (fun _ => 0))) (sz + 1) = some (.inl (0, 256, .inl (fun _ => 0))) := (hup_ne (by omega)).trans a6_1
  have a7_2 : hup g6 (sz + 4) (.inl (3, 78, .inl (fun _ => 0))) (sz + 2) = some (.inl (2, 256, .inr (.inl (fun _ => 0)))) := (hup_ne (by omega)).trans a6_2
  have a7_3 : hup g6 (sz + 4) (.inl (3, 78, .inl (fun _ => 0))) (sz + 3) = some (.inl (0, 78, .inl (fun _ => 0))) := (hup_ne (by omega)).trans a6_3
  have a7_4 : hup g6 (sz + 4) (.inl (3, 78, .inl (fun _ => 0))) (sz + 4) = some (.inl (3, 78, .inl (fun _ => 0))) := hup_eq
  obtain ⟨g8, e8, o8, x8⟩ := put_step (k := 3) (v := .ref (sz + 4)) (fs' := [.ref (sz + 1), .ref (sz + 2), .ref (sz + 3), .ref (sz + 4), .null, .null, .int 0, .null, .int 0, .int 0, .null, .null, .null, .null, .null, .null]) o7 (Nat.le_of_ble_eq_true rfl) rfl
  have b8 : ∀ b, b < sz → g8 b = g b := fun b hb => (x8 b (by omega)).trans (b7 b hb)
  have a8_1 : g8 (sz + 1) = some (.inl (0, 256, .inl (fun _ => 0))) := (x8 _ (by omega)).trans a7_1
  have a8_2 : g8 (sz + 2) = some (.inl (2, 256, .inr (.inl (fun _ => 0)))) := (x8 _ (by omega)).trans a7_2
  have a8_3 : g8 (sz + 3) = some (.inl (0, 78, .inl (fun _ => 0))) := (x8 _ (by omega)).trans a7_3
  have a8_4 : g8 (sz + 4) = some (.inl (3, 78, .inl (fun _ => 0))) := (x8 _ (by omega)).trans a7_4
  have o9 : hup g8 (sz + 5) (.inl (0, 234, .inl (fun _ => 0))) sz = some (.inr (4, [.ref (sz + 1), .ref (sz + 2), .ref (sz + 3), .ref (sz + 4), .null, .null, .int 0, .null, .int 0, .int 0, .null, .null, .null, .null, .null, .null])) := (hup_ne (by omega)).trans o8
  have b9 : ∀ b, b < sz → hup g8 (sz + 5) (.inl (0, 234, .inl (fun _ => 0))) b = g b := fun b hb => (hup_ne (by omega)).trans (b8 b hb)
  have a9_1 : hup g8 (sz + 5) (.inl (0, 234, .inl (fun _ => 0))) (sz + 1) = some (.inl (0, 256, .inl (fun _ => 0))) := (hup_ne (by omega)).trans a8_1
  have a9_2 : hup g8 (sz + 5) (.inl (0, 234, .inl (fun _ => 0))) (sz + 2) = some (.inl (2, 256, .inr (.inl (fun _ => 0)))) := (hup_ne (by omega)).trans a8_2
  have a9_3 : hup g8 (sz + 5) (.inl (0, 234, .inl (fun _ => 0))) (sz + 3) = some (.inl (0, 78, .inl (fun _ => 0))) := (hup_ne (by omega)).trans a8_3
  have a9_4 : hup g8 (sz + 5) (.inl (0, 234, .inl (fun _ => 0))) (sz + 4) = some (.inl (3, 78, .inl (fun _ => 0))) := (hup_ne (by omega)).trans a8_4
  have a9_5 : hup g8 (sz + 5) (.inl (0, 234, .inl (fun _ => 0))) (sz + 5) = some (.inl (0, 234, .inl (fun _ => 0))) := hup_eq
  obtain ⟨g10, e10, o10, x10⟩ := put_step (k := 4) (v := .ref (sz + 5)) (fs' := [.ref (sz + 1), .ref (sz + 2), .ref (sz + 3), .ref (sz + 4), .ref (sz + 5), .null, .int 0, .null, .int 0, .int 0, .null, .null, .null, .null, .null, .null]) o9 (Nat.le_of_ble_eq_true rfl) rfl
  have b10 : ∀ b, b < sz → g10 b = g b := fun b hb => (x10 b (by omega)).trans (b9 b hb)
  have a10_1 : g10 (sz + 1) = some (.inl (0, 256, .inl (fun _ => 0))) := (x10 _ (by omega)).trans a9_1
  have a10_2 : g10 (sz + 2) = some (.inl (2, 256, .inr (.inl (fun _ => 0)))) := (x10 _ (by omega)).trans a9_2
  have a10_3 : g10 (sz + 3) = some (.inl (0, 78, .inl (fun _ => 0))) := (x10 _ (by omega)).trans a9_3
  have a10_4 : g10 (sz + 4) = some (.inl (3, 78, .inl (fun _ => 0))) := (x10 _ (by omega)).trans a9_4
  have a10_5 : g10 (sz + 5) = some (.inl (0, 234, .inl (fun _ => 0))) := (x10 _ (by omega)).trans a9_5
  have o11 : hup g10 (sz + 6) (.inl (0, 1872, .inl (fun _ => 0))) sz = some (.inr (4, [.ref (sz + 1), .ref (sz + 2), .ref (sz + 3), .ref (sz + 4), .ref (sz + 5), .null, .int 0, .null, .int 0, .int 0, .null, .null, .null, .null, .null, .null])) := (hup_ne (by omega)).trans o10
  have b11 : ∀ b, b < sz → hup g10 (sz + 6) (.inl (0, 1872, .inl (fun _ => 0))) b = g b := fun b hb => (hup_ne (by omega)).trans (b10 b hb)
  have a11_1 : hup g10 (sz + 6) (.inl (0, 1872, .inl (fun _ => 0))) (sz + 1) = some (.inl (0, 256, .inl (fun _ => 0))) := (hup_ne (by omega)).trans a10_1
  have a11_2 : hup g10 (sz + 6) (.inl (0, 1872, .inl (fun _ => 0))) (sz + 2) = some (.inl (2, 256, .inr (.inl (fun _ => 0)))) := (hup_ne (by omega)).trans a10_2
  have a11_3 : hup g10 (sz + 6) (.inl (0, 1872, .inl (fun _ => 0))) (sz + 3) = some (.inl (0, 78, .inl (fun _ => 0))) := (hup_ne (by omega)).trans a10_3
  have a11_4 : hup g10 (sz + 6) (.inl (0, 1872, .inl (fun _ => 0))) (sz + 4) = some (.inl (3, 78, .inl (fun _ => 0))) := (hup_ne (by omega)).trans a10_4
  have a11_5 : hup g10 (sz + 6) (.inl (0, 1872, .inl (fun _ => 0))) (sz + 5) = some (.inl (0, 234, .inl (fun _ => 0))) := (hup_ne (by omega)).trans a10_5
  have a11_6 : hup g10 (sz + 6) (.inl (0, 1872, .inl (fun _ => 0))) (sz + 6) = some (.inl (0, 1872, .inl (fun _ => 0))) := hup_eq
  obtain ⟨g12, e12, o12, x12⟩ := put_step (k := 5) (v := .ref (sz + 6)) (fs' := [.ref (sz + 1), .ref (sz + 2), .ref (sz + 3), .ref (sz + 4), .ref (sz + 5), .ref (sz + 6), .int 0, .null, .int 0, .int 0, .null, .null, .null, .null, .null, .null]) o11 (Nat.le_of_ble_eq_true rfl) rfl
  have b12 : ∀ b, b < sz → g12 b = g b := fun b hb => (x12 b (by omega)).trans (b11 b hb)
  have a12_1 : g12 (sz + 1) = some (.inl (0, 256, .inl (fun _ => 0))) := (x12 _ (by omega)).trans a11_1
  have a12_2 : g12 (sz + 2) = some (.inl (2, 256, .inr (.inl (fun _ => 0)))) := (x12 _ (by omega)).trans a11_2
  have a12_3 : g12 (sz + 3) = some (.inl (0, 78, .inl (fun _ => 0))) := (x12 _ (by omega)).trans a11_3
  have a12_4 : g12 (sz + 4) = some (.inl (3, 78, .inl (fun _ => 0))) := (x12 _ (by omega)).trans a11_4
  have a12_5 : g12 (sz + 5) = some (.inl (0, 234, .inl (fun _ => 0))) := (x12 _ (by omega)).trans a11_5
  have a12_6 : g12 (sz + 6) = some (.inl (0, 1872, .inl (fun _ => 0))) := (x12 _ (by omega)).trans a11_6
  obtain ⟨g13, e13, o13, x13⟩ := put_step (k := 6) (v := .int 0) (fs' := [.ref (sz + 1), .ref (sz + 2), .ref (sz + 3), .ref (sz + 4), .ref (sz + 5), .ref (sz + 6), .int 0, .null, .int 0, .int 0, .null, .null, .null, .null, .null, .null]) o12 (Nat.le_of_ble_eq_true rfl) rfl
  have b13 : ∀ b, b < sz → g13 b = g b := fun b hb => (x13 b (by omega)).trans (b12 b hb)
  have a13_1 : g13 (sz + 1) = some (.inl (0, 256, .inl (fun _ => 0))) := (x13 _ (by omega)).trans a12_1
  have a13_2 : g13 (sz + 2) = some (.inl (2, 256, .inr (.inl (fun _ => 0)))) := (x13 _ (by omega)).trans a12_2
  have a13_3 : g13 (sz + 3) = some (.inl (0, 78, .inl (fun _ => 0))) := (x13 _ (by omega)).trans a12_3
  have a13_4 : g13 (sz + 4) = some (.inl (3, 78, .inl (fun _ => 0))) := (x13 _ (by omega)).trans a12_4
  have a13_5 : g13 (sz + 5) = some (.inl (0, 234, .inl (fun _ => 0))) := (x13 _ (by omega)).trans a12_5
  have a13_6 : g13 (sz + 6) = some (.inl (0, 1872, .inl (fun _ => 0))) := (x13 _ (by omega)).trans a12_6
  have o14 : hup g13 (sz + 7) (.inl (0, 8, .inl (fun _ => 0))) sz = some (.inr (4, [.ref (sz + 1), .ref (sz + 2), .ref (sz + 3), .ref (sz + 4), .ref (sz + 5), .ref (sz + 6), .int 0, .null, .int 0, .int 0, .null, .null, .null, .null, .null, .null])) := (hup_ne (by omega)).trans o13
  have b14 : ∀ b, b < sz → hup g13 (sz + 7) (.inl (0, 8, .inl (fun _ => 0))) b = g b := fun b hb => (hup_ne (by omega)).trans (b13 b hb)
  have a14_1 : hup g13 (sz + 7) (.inl (0, 8, .inl (fun _ => 0))) (sz + 1) = some (.inl (0, 256, .inl (fun _ => 0))) := (hup_ne (by omega)).trans a13_1
  have a14_2 : hup g13 (sz + 7) (.inl (0, 8, .inl (fun _ => 0))) (sz + 2) = some (.inl (2, 256, .inr (.inl (fun _ => 0)))) := (hup_ne (by omega)).trans a13_2
  have a14_3 : hup g13 (sz + 7) (.inl (0, 8, .inl (fun _ => 0))) (sz + 3) = some (.inl (0, 78, .inl (fun _ => 0))) := (hup_ne (by omega)).trans a13_3
  have a14_4 : hup g13 (sz + 7) (.inl (0, 8, .inl (fun _ => 0))) (sz + 4) = some (.inl (3, 78, .inl (fun _ => 0))) := (hup_ne (by omega)).trans a13_4
  have a14_5 : hup g13 (sz + 7) (.inl (0, 8, .inl (fun _ => 0))) (sz + 5) = some (.inl (0, 234, .inl (fun _ => 0))) := (hup_ne (by omega)).trans a13_5
  have a14_6 : hup g13 (sz + 7) (.inl (0, 8, .inl (fun _ => 0))) (sz + 6) = some (.inl (0, 1872, .inl (fun _ => 0))) := (hup_ne (by omega)).trans a13_6
  have a14_7 : hup g13 (sz + 7) (.inl (0, 8, .inl (fun _ => 0))) (sz + 7) = some (.inl (0, 8, .inl (fun _ => 0))) := hup_eq
  obtain ⟨g15, e15, o15, x15⟩ := put_step (k := 7) (v := .ref (sz + 7)) (fs' := [.ref (sz + 1), .ref (sz + 2), .ref (sz + 3), .ref (sz + 4), .ref (sz + 5), .ref (sz + 6), .int 0, .ref (sz + 7), .int 0, .int 0, .null, .null, .null, .null, .null, .null]) o14 (Nat.le_of_ble_eq_true rfl) rfl
  have b15 : ∀ b, b < sz → g15 b = g b := fun b hb => (x15 b (by omega)).trans (b14 b hb)
  have a15_1 : g15 (sz + 1) = some (.inl (0, 256, .inl (fun _ => 0))) := (x15 _ (by omega)).trans a14_1
  have a15_2 : g15 (sz + 2) = some (.inl (2, 256, .inr (.inl (fun _ => 0)))) := (x15 _ (by omega)).trans a14_2
  have a15_3 : g15 (sz + 3) = some (.inl (0, 78, .inl (fun _ => 0))) := (x15 _ (by omega)).trans a14_3
  have a15_4 : g15 (sz + 4) = some (.inl (3, 78, .inl (fun _ => 0))) := (x15 _ (by omega)).trans a14_4
  have a15_5 : g15 (sz + 5) = some (.inl (0, 234, .inl (fun _ => 0))) := (x15 _ (by omega)).trans a14_5
  have a15_6 : g15 (sz + 6) = some (.inl (0, 1872, .inl (fun _ => 0))) := (x15 _ (by omega)).trans a14_6
  have a15_7 : g15 (sz + 7) = some (.inl (0, 8, .inl (fun _ => 0))) := (x15 _ (by omega)).trans a14_7
  obtain ⟨g16, e16, o16, x16⟩ := put_step (k := 8) (v := .int 0) (fs' := [.ref (sz + 1), .ref (sz + 2), .ref (sz + 3), .ref (sz + 4), .ref (sz + 5), .ref (sz + 6), .int 0, .ref (sz + 7), .int 0, .int 0, .null, .null, .null, .null, .null, .null]) o15 (Nat.le_of_ble_eq_true rfl) rfl
  have b16 : ∀ b, b < sz → g16 b = g b := fun b hb => (x16 b (by omega)).trans (b15 b hb)
  have a16_1 : g16 (sz + 1) = some (.inl (0, 256, .inl (fun _ => 0))) := (x16 _ (by omega)).trans a15_1
  have a16_2 : g16 (sz + 2) = some (.inl (2, 256, .inr (.inl (fun _ => 0)))) := (x16 _ (by omega)).trans a15_2
  have a16_3 : g16 (sz + 3) = some (.inl (0, 78, .inl (fun _ => 0))) := (x16 _ (by omega)).trans a15_3
  have a16_4 : g16 (sz + 4) = some (.inl (3, 78, .inl (fun _ => 0))) := (x16 _ (by omega)).trans a15_4
  have a16_5 : g16 (sz + 5) = some (.inl (0, 234, .inl (fun _ => 0))) := (x16 _ (by omega)).trans a15_5
  have a16_6 : g16 (sz + 6) = some (.inl (0, 1872, .inl (fun _ => 0))) := (x16 _ (by omega)).trans a15_6
  have a16_7 : g16 (sz + 7) = some (.inl (0, 8, .inl (fun _ => 0))) := (x16 _ (by omega)).trans a15_7
  obtain ⟨g17, e17, o17, x17⟩ := put_step (k := 9) (v := .int 0) (fs' := [.ref (sz + 1), .ref (sz + 2), .ref (sz + 3), .ref (sz + 4), .ref (sz + 5), .ref (sz + 6), .int 0, .ref (sz + 7), .int 0, .int 0, .null, .null, .null, .null, .null, .null]) o16 (Nat.le_of_ble_eq_true rfl) rfl
  have b17 : ∀ b, b < sz → g17 b = g b := fun b hb => (x17 b (by omega)).trans (b16 b hb)
  have a17_1 : g17 (sz + 1) = some (.inl (0, 256, .inl (fun _ => 0))) := (x17 _ (by omega)).trans a16_1
  have a17_2 : g17 (sz + 2) = some (.inl (2, 256, .inr (.inl (fun _ => 0)))) := (x17 _ (by omega)).trans a16_2
  have a17_3 : g17 (sz + 3) = some (.inl (0, 78, .inl (fun _ => 0))) := (x17 _ (by omega)).trans a16_3
  have a17_4 : g17 (sz + 4) = some (.inl (3, 78, .inl (fun _ => 0))) := (x17 _ (by omega)).trans a16_4
  have a17_5 : g17 (sz + 5) = some (.inl (0, 234, .inl (fun _ => 0))) := (x17 _ (by omega)).trans a16_5
  have a17_6 : g17 (sz + 6) = some (.inl (0, 1872, .inl (fun _ => 0))) := (x17 _ (by omega)).trans a16_6
  have a17_7 : g17 (sz + 7) = some (.inl (0, 8, .inl (fun _ => 0))) := (x17 _ (by omega)).trans a16_7
  have o18 : hup g17 (sz + 8) (.inl (0, 9608, .inl (fun _ => 0))) sz = some (.inr (4, [.ref (sz + 1), .ref (sz + 2), .ref (sz + 3), .ref (sz + 4), .ref (sz + 5), .ref (sz + 6), .int 0, .ref (sz + 7), .int 0, .int 0, .null, .null, .null, .null, .null, .null])) := (hup_ne (by omega)).trans o17
  have b18 : ∀ b, b < sz → hup g17 (sz + 8) (.inl (0, 9608, .inl (fun _ => 0))) b = g b := fun b hb => (hup_ne (by omega)).trans (b17 b hb)
  have a18_1 : hup g17 (sz + 8) (.inl (0, 9608, .inl (fun _ => 0))) (sz + 1) = some (.inl (0, 256, .inl (fun _ => 0))) := (hup_ne (by omega)).trans a17_1
  have a18_2 : hup g17 (sz + 8) (.inl (0, 9608, .inl (fun _ => 0))) (sz + 2) = some (.inl (2, 256, .inr (.inl (fun _ => 0)))) := (hup_ne (by omega)).trans a17_2
  have a18_3 : hup g17 (sz + 8) (.inl (0, 9608, .inl (fun _ => 0))) (sz + 3) = some (.inl (0, 78, .inl (fun _ => 0))) := (hup_ne (by omega)).trans a17_3
  have a18_4 : hup g17 (sz + 8) (.inl (0, 9608, .inl (fun _ => 0))) (sz + 4) = some (.inl (3, 78, .inl (fun _ => 0))) := (hup_ne (by omega)).trans a17_4
  have a18_5 : hup g17 (sz + 8) (.inl (0, 9608, .inl (fun _ => 0))) (sz + 5) = some (.inl (0, 234, .inl (fun _ => 0))) := (hup_ne (by omega)).trans a17_5
  have a18_6 : hup g17 (sz + 8) (.inl (0, 9608, .inl (fun _ => 0))) (sz + 6) = some (.inl (0, 1872, .inl (fun _ => 0))) := (hup_ne (by omega)).trans a17_6
  have a18_7 : hup g17 (sz + 8) (.inl (0, 9608, .inl (fun _ => 0))) (sz + 7) = some (.inl (0, 8, .inl (fun _ => 0))) := (hup_ne (by omega)).trans a17_7
  have a18_8 : hup g17 (sz + 8) (.inl (0, 9608, .inl (fun _ => 0))) (sz + 8) = some (.inl (0, 9608, .inl (fun _ => 0))) := hup_eq
  obtain ⟨g19, e19, o19, x19⟩ := put_step (k := 10) (v := .ref (sz + 8)) (fs' := [.ref (sz + 1), .ref (sz + 2), .ref (sz + 3), .ref (sz + 4), .ref (sz + 5), .ref (sz + 6), .int 0, .ref (sz + 7), .int 0, .int 0, .ref (sz + 8), .null, .null, .null, .null, .null]) o18 (Nat.le_of_ble_eq_true rfl) rfl
  have b19 : ∀ b, b < sz → g19 b = g b := fun b hb => (x19 b (by omega)).trans (b18 b hb)
  have a19_1 : g19 (sz + 1) = some (.inl (0, 256, .inl (fun _ => 0))) := (x19 _ (by omega)).trans a18_1
  have a19_2 : g19 (sz + 2) = some (.inl (2, 256, .inr (.inl (fun _ => 0)))) := (x19 _ (by omega)).trans a18_2
  have a19_3 : g19 (sz + 3) = some (.inl (0, 78, .inl (fun _ => 0))) := (x19 _ (by omega)).trans a18_3
  have a19_4 : g19 (sz + 4) = some (.inl (3, 78, .inl (fun _ => 0))) := (x19 _ (by omega)).trans a18_4
  have a19_5 : g19 (sz + 5) = some (.inl (0, 234, .inl (fun _ => 0))) := (x19 _ (by omega)).trans a18_5
  have a19_6 : g19 (sz + 6) = some (.inl (0, 1872, .inl (fun _ => 0))) := (x19 _ (by omega)).trans a18_6
  have a19_7 : g19 (sz + 7) = some (.inl (0, 8, .inl (fun _ => 0))) := (x19 _ (by omega)).trans a18_7
  have a19_8 : g19 (sz + 8) = some (.inl (0, 9608, .inl (fun _ => 0))) := (x19 _ (by omega)).trans a18_8
  have o20 : hup g19 (sz + 9) (.inl (0, 1201, .inl (fun _ => 0))) sz = some (.inr (4, [.ref (sz + 1), .ref (sz + 2), .ref (sz + 3), .ref (sz + 4), .ref (sz + 5), .ref (sz + 6), .int 0, .ref (sz + 7), .int 0, .int 0, .ref (sz + 8), .null, .null, .null, .null, .null])) := (hup_ne (by omega)).trans o19
  have b20 : ∀ b, b < sz → hup g19 (sz + 9) (.inl (0, 1201, .inl (fun _ => 0))) b = g b := fun b hb => (hup_ne (by omega)).trans (b19 b hb)
  have a20_1 : hup g19 (sz + 9) (.inl (0, 1201, .inl (fun _ => 0))) (sz + 1) = some (.inl (0, 256, .inl (fun _ => 0))) := (hup_ne (by omega)).trans a19_1
  have a20_2 : hup g19 (sz + 9) (.inl (0, 1201, .inl (fun _ => 0))) (sz + 2) = some (.inl (2, 256, .inr (.inl (fun _ => 0)))) := (hup_ne (by omega)).trans a19_2
  have a20_3 : hup g19 (sz + 9) (.inl (0, 1201, .inl (fun _ => 0))) (sz + 3) = some (.inl (0, 78, .inl (fun _ => 0))) := (hup_ne (by omega)).trans a19_3
  have a20_4 : hup g19 (sz + 9) (.inl (0, 1201, .inl (fun _ => 0))) (sz + 4) = some (.inl (3, 78, .inl (fun _ => 0))) := (hup_ne (by omega)).trans a19_4
  have a20_5 : hup g19 (sz + 9) (.inl (0, 1201, .inl (fun _ => 0))) (sz + 5) = some (.inl (0, 234, .inl (fun _ => 0))) := (hup_ne (by omega)).trans a19_5
  have a20_6 : hup g19 (sz + 9) (.inl (0, 1201, .inl (fun _ => 0))) (sz + 6) = some (.inl (0, 1872, .inl (fun _ => 0))) := (hup_ne (by omega)).trans a19_6
  have a20_7 : hup g19 (sz + 9) (.inl (0, 1201, .inl (fun _ => 0))) (sz + 7) = some (.inl (0, 8, .inl (fun _ => 0))) := (hup_ne (by omega)).trans a19_7
  have a20_8 : hup g19 (sz + 9) (.inl (0, 1201, .inl (fun _ => 0))) (sz + 8) = some (.inl (0, 9608, .inl (fun _ => 0))) := (hup_ne (by omega)).trans a19_8
  have a20_9 : hup g19 (sz + 9) (.inl (0, 1201, .inl (fun _ => 0))) (sz + 9) = some (.inl (0, 1201, .inl (fun _ => 0))) := hup_eq
  obtain ⟨g21, e21, o21, x21⟩ := put_step (k := 11) (v := .ref (sz + 9)) (fs' := [.ref (sz + 1), .ref (sz + 2), .ref (sz + 3), .ref (sz + 4), .ref (sz + 5), .ref (sz + 6), .int 0, .ref (sz + 7), .int 0, .int 0, .ref (sz + 8), .ref (sz + 9), .null, .null, .null, .null]) o20 (Nat.le_of_ble_eq_true rfl) rfl
  have b21 : ∀ b, b < sz → g21 b = g b := fun b hb => (x21 b (by omega)).trans (b20 b hb)
  have a21_1 : g21 (sz + 1) = some (.inl (0, 256, .inl (fun _ => 0))) := (x21 _ (by omega)).trans a20_1
  have a21_2 : g21 (sz + 2) = some (.inl (2, 256, .inr (.inl (fun _ => 0)))) := (x21 _ (by omega)).trans a20_2
  have a21_3 : g21 (sz + 3) = some (.inl (0, 78, .inl (fun _ => 0))) := (x21 _ (by omega)).trans a20_3
  have a21_4 : g21 (sz + 4) = some (.inl (3, 78, .inl (fun _ => 0))) := (x21 _ (by omega)).trans a20_4
  have a21_5 : g21 (sz + 5) = some (.inl (0, 234, .inl (fun _ => 0))) := (x21 _ (by omega)).trans a20_5
  have a21_6 : g21 (sz + 6) = some (.inl (0, 1872, .inl (fun _ => 0))) := (x21 _ (by omega)).trans a20_6
  have a21_7 : g21 (sz + 7) = some (.inl (0, 8, .inl (fun _ => 0))) := (x21 _ (by omega)).trans a20_7
  have a21_8 : g21 (sz + 8) = some (.inl (0, 9608, .inl (fun _ => 0))) := (x21 _ (by omega)).trans a20_8
  have a21_9 : g21 (sz + 9) = some (.inl (0, 1201, .inl (fun _ => 0))) := (x21 _ (by omega)).trans a20_9
  have o22 : hup g21 (sz + 10) (.inl (0, 1201, .inl (fun _ => 0))) sz = some (.inr (4, [.ref (sz + 1), .ref (sz + 2), .ref (sz + 3), .ref (sz + 4), .ref (sz + 5), .ref (sz + 6), .int 0, .ref (sz + 7), .int 0, .int 0, .ref (sz + 8), .ref (sz + 9), .null, .null, .null, .null])) := (hup_ne (by omega)).trans o21
  have b22 : ∀ b, b < sz → hup g21 (sz + 10) (.inl (0, 1201, .inl (fun _ => 0))) b = g b := fun b hb => (hup_ne (by omega)).trans (b21 b hb)
  have a22_1 : hup g21 (sz + 10) (.inl (0, 1201, .inl (fun _ => 0))) (sz + 1) = some (.inl (0, 256, .inl (fun _ => 0))) := (hup_ne (by omega)).trans a21_1
  have a22_2 : hup g21 (sz + 10) (.inl (0, 1201, .inl (fun _ => 0))) (sz + 2) = some (.inl (2, 256, .inr (.inl (fun _ => 0)))) := (hup_ne (by omega)).trans a21_2
  have a22_3 : hup g21 (sz + 10) (.inl (0, 1201, .inl (fun _ => 0))) (sz + 3) = some (.inl (0, 78, .inl (fun _ => 0))) := (hup_ne (by omega)).trans a21_3
  have a22_4 : hup g21 (sz + 10) (.inl (0, 1201, .inl (fun _ => 0))) (sz + 4) = some (.inl (3, 78, .inl (fun _ => 0))) := (hup_ne (by omega)).trans a21_4
  have a22_5 : hup g21 (sz + 10) (.inl (0, 1201, .inl (fun _ => 0))) (sz + 5) = some (.inl (0, 234, .inl (fun _ => 0))) := (hup_ne (by omega)).trans a21_5
  have a22_6 : hup g21 (sz + 10) (.inl (0, 1201, .inl (fun _ => 0))) (sz + 6) = some (.inl (0, 1872, .inl (fun _ => 0))) := (hup_ne (by omega)).trans a21_6
  have a22_7 : hup g21 (sz + 10) (.inl (0, 1201, .inl (fun _ => 0))) (sz + 7) = some (.inl (0, 8, .inl (fun _ => 0))) := (hup_ne (by omega)).trans a21_7
  have a22_8 : hup g21 (sz + 10) (.inl (0, 1201, .inl (fun _ => 0))) (sz + 8) = some (.inl (0, 9608, .inl (fun _ => 0))) := (hup_ne (by omega)).trans a21_8
  have a22_9 : hup g21 (sz + 10) (.inl (0, 1201, .inl (fun _ => 0))) (sz + 9) = some (.inl (0, 1201, .inl (fun _ => 0))) := (hup_ne (by omega)).trans a21_9
  have a22_10 : hup g21 (sz + 10) (.inl (0, 1201, .inl (fun _ => 0))) (sz + 10) = some (.inl (0, 1201, .inl (fun _ => 0))) := hup_eq
  obtain ⟨g23, e23, o23, x23⟩ := put_step (k := 12) (v := .ref (sz + 10)) (fs' := [.ref (sz + 1), .ref (sz + 2), .ref (sz + 3), .ref (sz + 4), .ref (sz + 5), .ref (sz + 6), .int 0, .ref (sz + 7), .int 0, .int 0, .ref (sz + 8), .ref (sz + 9), .ref (sz + 10), .null, .null, .null]) o22 (Nat.le_of_ble_eq_true rfl) rfl
  have b23 : ∀ b, b < sz → g23 b = g b := fun b hb => (x23 b (by omega)).trans (b22 b hb)
  have a23_1 : g23 (sz + 1) = some (.inl (0, 256, .inl (fun _ => 0))) := (x23 _ (by omega)).trans a22_1
  have a23_2 : g23 (sz + 2) = some (.inl (2, 256, .inr (.inl (fun _ => 0)))) := (x23 _ (by omega)).trans a22_2
  have a23_3 : g23 (sz + 3) = some (.inl (0, 78, .inl (fun _ => 0))) := (x23 _ (by omega)).trans a22_3
  have a23_4 : g23 (sz + 4) = some (.inl (3, 78, .inl (fun _ => 0))) := (x23 _ (by omega)).trans a22_4
  have a23_5 : g23 (sz + 5) = some (.inl (0, 234, .inl (fun _ => 0))) := (x23 _ (by omega)).trans a22_5
  have a23_6 : g23 (sz + 6) = some (.inl (0, 1872, .inl (fun _ => 0))) := (x23 _ (by omega)).trans a22_6
  have a23_7 : g23 (sz + 7) = some (.inl (0, 8, .inl (fun _ => 0))) := (x23 _ (by omega)).trans a22_7
  have a23_8 : g23 (sz + 8) = some (.inl (0, 9608, .inl (fun _ => 0))) := (x23 _ (by omega)).trans a22_8
  have a23_9 : g23 (sz + 9) = some (.inl (0, 1201, .inl (fun _ => 0))) := (x23 _ (by omega)).trans a22_9
  have a23_10 : g23 (sz + 10) = some (.inl (0, 1201, .inl (fun _ => 0))) := (x23 _ (by omega)).trans a22_10
  have o24 : hup g23 (sz + 11) (.inl (0, 1201, .inl (fun _ => 0))) sz = some (.inr (4, [.ref (sz + 1), .ref (sz + 2), .ref (sz + 3), .ref (sz + 4), .ref (sz + 5), .ref (sz + 6), .int 0, .ref (sz + 7), .int 0, .int 0, .ref (sz + 8), .ref (sz + 9), .ref (sz + 10), .null, .null, .null])) := (hup_ne (by omega)).trans o23
  have b24 : ∀ b, b < sz → hup g23 (sz + 11) (.inl (0, 1201, .inl (fun _ => 0))) b = g b := fun b hb => (hup_ne (by omega)).trans (b23 b hb)
  have a24_1 : hup g23 (sz + 11) (.inl (0, 1201, .inl (fun _ => 0))) (sz + 1) = some (.inl (0, 256, .inl (fun _ => 0))) := (hup_ne (by omega)).trans a23_1
  have a24_2 : hup g23 (sz + 11) (.inl (0, 1201, .inl (fun _ => 0))) (sz + 2) = some (.inl (2, 256, .inr (.inl (fun _ => 0)))) := (hup_ne (by omega)).trans a23_2
  have a24_3 : hup g23 (sz + 11) (.inl (0, 1201, .inl (fun _ => 0))) (sz + 3) = some (.inl (0, 78, .inl (fun _ => 0))) := (hup_ne (by omega)).trans a23_3
  have a24_4 : hup g23 (sz + 11) (.inl (0, 1201, .inl (fun _ => 0))) (sz + 4) = some (.inl (3, 78, .inl (fun _ => 0))) := (hup_ne (by omega)).trans a23_4
  have a24_5 : hup g23 (sz + 11) (.inl (0, 1201, .inl (fun _ => 0))) (sz + 5) = some (.inl (0, 234, .inl (fun _ => 0))) := (hup_ne (by omega)).trans a23_5
  have a24_6 : hup g23 (sz + 11) (.inl (0, 1201, .inl (fun _ => 0))) (sz + 6) = some (.inl (0, 1872, .inl (fun _ => 0))) := (hup_ne (by omega)).trans a23_6
  have a24_7 : hup g23 (sz + 11) (.inl (0, 1201, .inl (fun _ => 0))) (sz + 7) = some (.inl (0, 8, .inl (fun _ => 0))) := (hup_ne (by omega)).trans a23_7
  have a24_8 : hup g23 (sz + 11) (.inl (0, 1201, .inl (fun _ => 0))) (sz + 8) = some (.inl (0, 9608, .inl (fun _ => 0))) := (hup_ne (by omega)).trans a23_8
  have a24_9 : hup g23 (sz + 11) (.inl (0, 1201, .inl (fun _ => 0))) (sz + 9) = some (.inl (0, 1201, .inl (fun _ => 0))) := (hup_ne (by omega)).trans a23_9
  have a24_10 : hup g23 (sz + 11) (.inl (0, 1201, .inl (fun _ => 0))) (sz + 10) = some (.inl (0, 1201, .inl (fun _ => 0))) := (hup_ne (by omega)).trans a23_10
  have a24_11 : hup g23 (sz + 11) (.inl (0, 1201, .inl (fun _ => 0))) (sz + 11) = some (.inl (0, 1201, .inl (fun _ => 0))) := hup_eq
  obtain ⟨g25, e25, o25, x25⟩ := put_step (k := 13) (v := .ref (sz + 11)) (fs' := [.ref (sz + 1), .ref (sz + 2), .ref (sz + 3), .ref (sz + 4), .ref (sz + 5), .ref (sz + 6), .int 0, .ref (sz + 7), .int 0, .int 0, .ref (sz + 8), .ref (sz + 9), .ref (sz + 10), .ref (sz + 11), .null, .null]) o24 (Nat.le_of_ble_eq_true rfl) rfl
  have b25 : ∀ b, b < sz → g25 b = g b := fun b hb => (x25 b (by omega)).trans (b24 b hb)
  have a25_1 : g25 (sz + 1) = some (.inl (0, 256, .inl (fun _ => 0))) := (x25 _ (by omega)).trans a24_1
  have a25_2 : g25 (sz + 2) = some (.inl (2, 256, .inr (.inl (fun _ => 0)))) := (x25 _ (by omega)).trans a24_2
  have a25_3 : g25 (sz + 3) = some (.inl (0, 78, .inl (fun _ => 0))) := (x25 _ (by omega)).trans a24_3
  have a25_4 : g25 (sz + 4) = some (.inl (3, 78, .inl (fun _ => 0))) := (x25 _ (by omega)).trans a24_4
  have a25_5 : g25 (sz + 5) = some (.inl (0, 234, .inl (fun _ => 0))) := (x25 _ (by omega)).trans a24_5
  have a25_6 : g25 (sz + 6) = some (.inl (0, 1872, .inl (fun _ => 0))) := (x25 _ (by omega)).trans a24_6
  have a25_7 : g25 (sz + 7) = some (.inl (0, 8, .inl (fun _ => 0))) := (x25 _ (by omega)).trans a24_7
  have a25_8 : g25 (sz + 8) = some (.inl (0, 9608, .inl (fun _ => 0))) := (x25 _ (by omega)).trans a24_8
  have a25_9 : g25 (sz + 9) = some (.inl (0, 1201, .inl (fun _ => 0))) := (x25 _ (by omega)).trans a24_9
  have a25_10 : g25 (sz + 10) = some (.inl (0, 1201, .inl (fun _ => 0))) := (x25 _ (by omega)).trans a24_10
  have a25_11 : g25 (sz + 11) = some (.inl (0, 1201, .inl (fun _ => 0))) := (x25 _ (by omega)).trans a24_11
  have o26 : hup g25 (sz + 12) (.inl (0, 4096, .inl (fun _ => 0))) sz = some (.inr (4, [.ref (sz + 1), .ref (sz + 2), .ref (sz + 3), .ref (sz + 4), .ref (sz + 5), .ref (sz + 6), .int 0, .ref (sz + 7), .int 0, .int 0, .ref (sz + 8), .ref (sz + 9), .ref (sz + 10), .ref (sz + 11), .null, .null])) := (hup_ne (by omega)).trans o25
  have b26 : ∀ b, b < sz → hup g25 (sz + 12) (.inl (0, 4096, .inl (fun _ => 0))) b = g b := fun b hb => (hup_ne (by omega)).trans (b25 b hb)
  have a26_1 : hup g25 (sz + 12) (.inl (0, 4096, .inl (fun _ => 0))) (sz + 1) = some (.inl (0, 256, .inl (fun _ => 0))) := (hup_ne (by omega)).trans a25_1
  have a26_2 : hup g25 (sz + 12) (.inl (0, 4096, .inl (fun _ => 0))) (sz + 2) = some (.inl (2, 256, .inr (.inl (fun _ => 0)))) := (hup_ne (by omega)).trans a25_2
  have a26_3 : hup g25 (sz + 12) (.inl (0, 4096, .inl (fun _ => 0))) (sz + 3) = some (.inl (0, 78, .inl (fun _ => 0))) := (hup_ne (by omega)).trans a25_3
  have a26_4 : hup g25 (sz + 12) (.inl (0, 4096, .inl (fun _ => 0))) (sz + 4) = some (.inl (3, 78, .inl (fun _ => 0))) := (hup_ne (by omega)).trans a25_4
  have a26_5 : hup g25 (sz + 12) (.inl (0, 4096, .inl (fun _ => 0))) (sz + 5) = some (.inl (0, 234, .inl (fun _ => 0))) := (hup_ne (by omega)).trans a25_5
  have a26_6 : hup g25 (sz + 12) (.inl (0, 4096, .inl (fun _ => 0))) (sz + 6) = some (.inl (0, 1872, .inl (fun _ => 0))) := (hup_ne (by omega)).trans a25_6
  have a26_7 : hup g25 (sz + 12) (.inl (0, 4096, .inl (fun _ => 0))) (sz + 7) = some (.inl (0, 8, .inl (fun _ => 0))) := (hup_ne (by omega)).trans a25_7
  have a26_8 : hup g25 (sz + 12) (.inl (0, 4096, .inl (fun _ => 0))) (sz + 8) = some (.inl (0, 9608, .inl (fun _ => 0))) := (hup_ne (by omega)).trans a25_8
  have a26_9 : hup g25 (sz + 12) (.inl (0, 4096, .inl (fun _ => 0))) (sz + 9) = some (.inl (0, 1201, .inl (fun _ => 0))) := (hup_ne (by omega)).trans a25_9
  have a26_10 : hup g25 (sz + 12) (.inl (0, 4096, .inl (fun _ => 0))) (sz + 10) = some (.inl (0, 1201, .inl (fun _ => 0))) := (hup_ne (by omega)).trans a25_10
  have a26_11 : hup g25 (sz + 12) (.inl (0, 4096, .inl (fun _ => 0))) (sz + 11) = some (.inl (0, 1201, .inl (fun _ => 0))) := (hup_ne (by omega)).trans a25_11
  have a26_12 : hup g25 (sz + 12) (.inl (0, 4096, .inl (fun _ => 0))) (sz + 12) = some (.inl (0, 4096, .inl (fun _ => 0))) := hup_eq
  obtain ⟨g27, e27, o27, x27⟩ := put_step (k := 14) (v := .ref (sz + 12)) (fs' := [.ref (sz + 1), .ref (sz + 2), .ref (sz + 3), .ref (sz + 4), .ref (sz + 5), .ref (sz + 6), .int 0, .ref (sz + 7), .int 0, .int 0, .ref (sz + 8), .ref (sz + 9), .ref (sz + 10), .ref (sz + 11), .ref (sz + 12), .null]) o26 (Nat.le_of_ble_eq_true rfl) rfl
  have b27 : ∀ b, b < sz → g27 b = g b := fun b hb => (x27 b (by omega)).trans (b26 b hb)
  have a27_1 : g27 (sz + 1) = some (.inl (0, 256, .inl (fun _ => 0))) := (x27 _ (by omega)).trans a26_1
  have a27_2 : g27 (sz + 2) = some (.inl (2, 256, .inr (.inl (fun _ => 0)))) := (x27 _ (by omega)).trans a26_2
  have a27_3 : g27 (sz + 3) = some (.inl (0, 78, .inl (fun _ => 0))) := (x27 _ (by omega)).trans a26_3
  have a27_4 : g27 (sz + 4) = some (.inl (3, 78, .inl (fun _ => 0))) := (x27 _ (by omega)).trans a26_4
  have a27_5 : g27 (sz + 5) = some (.inl (0, 234, .inl (fun _ => 0))) := (x27 _ (by omega)).trans a26_5
  have a27_6 : g27 (sz + 6) = some (.inl (0, 1872, .inl (fun _ => 0))) := (x27 _ (by omega)).trans a26_6
  have a27_7 : g27 (sz + 7) = some (.inl (0, 8, .inl (fun _ => 0))) := (x27 _ (by omega)).trans a26_7
  have a27_8 : g27 (sz + 8) = some (.inl (0, 9608, .inl (fun _ => 0))) := (x27 _ (by omega)).trans a26_8
  have a27_9 : g27 (sz + 9) = some (.inl (0, 1201, .inl (fun _ => 0))) := (x27 _ (by omega)).trans a26_9
  have a27_10 : g27 (sz + 10) = some (.inl (0, 1201, .inl (fun _ => 0))) := (x27 _ (by omega)).trans a26_10
  have a27_11 : g27 (sz + 11) = some (.inl (0, 1201, .inl (fun _ => 0))) := (x27 _ (by omega)).trans a26_11
  have a27_12 : g27 (sz + 12) = some (.inl (0, 4096, .inl (fun _ => 0))) := (x27 _ (by omega)).trans a26_12
  have o28 : hup g27 (sz + 13) (.inl (0, 10, .inl (fun _ => 0))) sz = some (.inr (4, [.ref (sz + 1), .ref (sz + 2), .ref (sz + 3), .ref (sz + 4), .ref (sz + 5), .ref (sz + 6), .int 0, .ref (sz + 7), .int 0, .int 0, .ref (sz + 8), .ref (sz + 9), .ref (sz + 10), .ref (sz + 11), .ref (sz + 12), .null])) := (hup_ne (by omega)).trans o27
  have b28 : ∀ b, b < sz → hup g27 (sz + 13) (.inl (0, 10, .inl (fun _ => 0))) b = g b := fun b hb => (hup_ne (by omega)).trans (b27 b hb)
  have a28_1 : hup g27 (sz + 13) (.inl (0, 10, .inl (fun _ => 0))) (sz + 1) = some (.inl (0, 256, .inl (fun _ => 0))) := (hup_ne (by omega)).trans a27_1
  have a28_2 : hup g27 (sz + 13) (.inl (0, 10, .inl (fun _ => 0))) (sz + 2) = some (.inl (2, 256, .inr (.inl (fun _ => 0)))) := (hup_ne (by omega)).trans a27_2
  have a28_3 : hup g27 (sz + 13) (.inl (0, 10, .inl (fun _ => 0))) (sz + 3) = some (.inl (0, 78, .inl (fun _ => 0))) := (hup_ne (by omega)).trans a27_3
  have a28_4 : hup g27 (sz + 13) (.inl (0, 10, .inl (fun _ => 0))) (sz + 4) = some (.inl (3, 78, .inl (fun _ => 0))) := (hup_ne (by omega)).trans a27_4
  have a28_5 : hup g27 (sz + 13) (.inl (0, 10, .inl (fun _ => 0))) (sz + 5) = some (.inl (0, 234, .inl (fun _ => 0))) := (hup_ne (by omega)).trans a27_5
  have a28_6 : hup g27 (sz + 13) (.inl (0, 10, .inl (fun _ => 0))) (sz + 6) = some (.inl (0, 1872, .inl (fun _ => 0))) := (hup_ne (by omega)).trans a27_6
  have a28_7 : hup g27 (sz + 13) (.inl (0, 10, .inl (fun _ => 0))) (sz + 7) = some (.inl (0, 8, .inl (fun _ => 0))) := (hup_ne (by omega)).trans a27_7
  have a28_8 : hup g27 (sz + 13) (.inl (0, 10, .inl (fun _ => 0))) (sz + 8) = some (.inl (0, 9608, .inl (fun _ => 0))) := (hup_ne (by omega)).trans a27_8
  have a28_9 : hup g27 (sz + 13) (.inl (0, 10, .inl (fun _ => 0))) (sz + 9) = some (.inl (0, 1201, .inl (fun _ => 0))) := (hup_ne (by omega)).trans a27_9
  have a28_10 : hup g27 (sz + 13) (.inl (0, 10, .inl (fun _ => 0))) (sz + 10) = some (.inl (0, 1201, .inl (fun _ => 0))) := (hup_ne (by omega)).trans a27_10
  have a28_11 : hup g27 (sz + 13) (.inl (0, 10, .inl (fun _ => 0))) (sz + 11) = some (.inl (0, 1201, .inl (fun _ => 0))) := (hup_ne (by omega)).trans a27_11
  have a28_12 : hup g27 (sz + 13) (.inl (0, 10, .inl (fun _ => 0))) (sz + 12) = some (.inl (0, 4096, .inl (fun _ => 0))) := (hup_ne (by omega)).trans a27_12
  have a28_13 : hup g27 (sz + 13) (.inl (0, 10, .inl (fun _ => 0))) (sz + 13) = some (.inl (0, 10, .inl (fun _ => 0))) := hup_eq
  obtain ⟨g29, e29, o29, x29⟩ := put_step (k := 15) (v := .ref (sz + 13)) (fs' := [.ref (sz + 1), .ref (sz + 2), .ref (sz + 3), .ref (sz + 4), .ref (sz + 5), .ref (sz + 6), .int 0, .ref (sz + 7), .int 0, .int 0, .ref (sz + 8), .ref (sz + 9), .ref (sz + 10), .ref (sz + 11), .ref (sz + 12), .ref (sz + 13)]) o28 (Nat.le_of_ble_eq_true rfl) rfl
  have b29 : ∀ b, b < sz → g29 b = g b := fun b hb => (x29 b (by omega)).trans (b28 b hb)
  have a29_1 : g29 (sz + 1) = some (.inl (0, 256, .inl (fun _ => 0))) := (x29 _ (by omega)).trans a28_1
  have a29_2 : g29 (sz + 2) = some (.inl (2, 256, .inr (.inl (fun _ => 0)))) := (x29 _ (by omega)).trans a28_2
  have a29_3 : g29 (sz + 3) = some (.inl (0, 78, .inl (fun _ => 0))) := (x29 _ (by omega)).trans a28_3
  have a29_4 : g29 (sz + 4) = some (.inl (3, 78, .inl (fun _ => 0))) := (x29 _ (by omega)).trans a28_4
  have a29_5 : g29 (sz + 5) = some (.inl (0, 234, .inl (fun _ => 0))) := (x29 _ (by omega)).trans a28_5
  have a29_6 : g29 (sz + 6) = some (.inl (0, 1872, .inl (fun _ => 0))) := (x29 _ (by omega)).trans a28_6
  have a29_7 : g29 (sz + 7) = some (.inl (0, 8, .inl (fun _ => 0))) := (x29 _ (by omega)).trans a28_7
  have a29_8 : g29 (sz + 8) = some (.inl (0, 9608, .inl (fun _ => 0))) := (x29 _ (by omega)).trans a28_8
  have a29_9 : g29 (sz + 9) = some (.inl (0, 1201, .inl (fun _ => 0))) := (x29 _ (by omega)).trans a28_9
  have a29_10 : g29 (sz + 10) = some (.inl (0, 1201, .inl (fun _ => 0))) := (x29 _ (by omega)).trans a28_10
  have a29_11 : g29 (sz + 11) = some (.inl (0, 1201, .inl (fun _ => 0))) := (x29 _ (by omega)).trans a28_11
  have a29_12 : g29 (sz + 12) = some (.inl (0, 4096, .inl (fun _ => 0))) := (x29 _ (by omega)).trans a28_12
  have a29_13 : g29 (sz + 13) = some (.inl (0, 10, .inl (fun _ => 0))) := (x29 _ (by omega)).trans a28_13
  have gr : Rel (fun b k => if b = sz then anX4 sz k else ar b k) (fun b => if b = sz then 4 else c0 b) (sz + 1 + 13) g29 (nwX4 w sz) ∧ Ext ar c0 (fun b k => if b = sz then anX4 sz k else ar b k) (fun b => if b = sz then 4 else c0 b) := ?gr
  · have hc4 : (fun b => if b = sz then 4 else c0 b) sz = 4 := if_pos rfl
    obtain ⟨gz, ar2, c2, ez, Pz, Xz⟩ := rX4_init_134 (c0 := fun b => if b = sz then 4 else c0 b) _ _ _ sz _ _ _ hc4 gr.1 hF2
    refine ⟨gz, ar2, c2, ?_, ?_, gr.2.tr Xz, ((Xz sz (by simp)).1).trans (if_pos rfl)⟩
    · refine bmp_of (m1 := m1 + 12) (s1 := s1 + 19843) ?_ (by omega) (by omega)
      refine ob_of e2 ?_
      refine bmp_of (m1 := m1 + 11) (s1 := s1 + 19587) ?_ (by omega) (by omega)
      refine ob_of e4 ?_
      refine bmp_of (m1 := m1 + 10) (s1 := s1 + 19509) ?_ (by omega) (by omega)
      refine ob_of e6 ?_
      refine bmp_of (m1 := m1 + 9) (s1 := s1 + 19431) ?_ (by omega) (by omega)
      refine ob_of e8 ?_
      refine bmp_of (m1 := m1 + 8) (s1 := s1 + 19197) ?_ (by omega) (by omega)
      refine ob_of e10 ?_
      refine bmp_of (m1 := m1 + 7) (s1 := s1 + 17325) ?_ (by omega) (by omega)
      refine ob_of e12 ?_
      refine ob_of e13 ?_
      refine bmp_of (m1 := m1 + 6) (s1 := s1 + 17317) ?_ (by omega) (by omega)
      refine ob_of e15 ?_
      refine ob_of e16 ?_
      refine ob_of e17 ?_
      refine bmp_of (m1 := m1 + 5) (s1 := s1 + 7709) ?_ (by omega) (by omega)
      refine ob_of e19 ?_
      refine bmp_of (m1 := m1 + 4) (s1 := s1 + 6508) ?_ (by omega) (by omega)
      refine ob_of e21 ?_
      refine bmp_of (m1 := m1 + 3) (s1 := s1 + 5307) ?_ (by omega) (by omega)
      refine ob_of e23 ?_
      refine bmp_of (m1 := m1 + 2) (s1 := s1 + 4106) ?_ (by omega) (by omega)
      refine ob_of e25 ?_
      refine bmp_of (m1 := m1 + 1) (s1 := s1 + 10) ?_ (by omega) (by omega)
      refine ob_of e27 ?_
      refine bmp_of (m1 := m1 + 0) (s1 := s1 + 0) ?_ (by omega) (by omega)
      refine ob_of e29 ?_
      exact ez
    · rw [show sz + 1 + (m1 + 13) = sz + 1 + 13 + m1 by omega]; exact Pz
  refine P.grow (arn := anX4 sz) (by decide) (by omega) b29 (o29.trans rfl) ?_ ?_
  · intro k hk hf
    rcases (show k = 0 ∨ k = 1 ∨ k = 2 ∨ k = 3 ∨ k = 4 ∨ k = 5 ∨ k = 6 ∨ k = 7 ∨ k = 8 ∨ k = 9 ∨ k = 10 ∨ k = 11 ∨ k = 12 ∨ k = 13 ∨ k = 14 ∨ k = 15 by have : k < 16 := hk; omega) with rfl | rfl | rfl | rfl | rfl | rfl | rfl | rfl | rfl | rfl | rfl | rfl | rfl | rfl | rfl | rfl
    · exact ⟨a29_1, by show sz < sz + 1; omega, by show sz + 1 < _; omega⟩
    · exact ⟨a29_2, by show sz < sz + 2; omega, by show sz + 2 < _; omega⟩
    · exact ⟨a29_3, by show sz < sz + 3; omega, by show sz + 3 < _; omega⟩
    · exact ⟨a29_4, by show sz < sz + 4; omega, by show sz + 4 < _; omega⟩
    · exact ⟨a29_5, by show sz < sz + 5; omega, by show sz + 5 < _; omega⟩
    · exact ⟨a29_6, by show sz < sz + 6; omega, by show sz + 6 < _; omega⟩
    · exact absurd hf (by decide)
    · exact ⟨a29_7, by show sz < sz + 7; omega, by show sz + 7 < _; omega⟩
    · exact absurd hf (by decide)
    · exact absurd hf (by decide)
    · exact ⟨a29_8, by show sz < sz + 8; omega, by show sz + 8 < _; omega⟩
    · exact ⟨a29_9, by show sz < sz + 9; omega, by show sz + 9 < _; omega⟩
    · exact ⟨a29_10, by show sz < sz + 10; omega, by show sz + 10 < _; omega⟩
    · exact ⟨a29_11, by show sz < sz + 11; omega, by show sz + 11 < _; omega⟩
    · exact ⟨a29_12, by show sz < sz + 12; omega, by show sz + 12 < _; omega⟩
    · exact ⟨a29_13, by show sz < sz + 13; omega, by show sz + 13 < _; omega⟩
  · intro k m hk hf hm hfm e
    rcases (show k = 0 ∨ k = 1 ∨ k = 2 ∨ k = 3 ∨ k = 4 ∨ k = 5 ∨ k = 6 ∨ k = 7 ∨ k = 8 ∨ k = 9 ∨ k = 10 ∨ k = 11 ∨ k = 12 ∨ k = 13 ∨ k = 14 ∨ k = 15 by have : k < 16 := hk; omega) with rfl | rfl | rfl | rfl | rfl | rfl | rfl | rfl | rfl | rfl | rfl | rfl | rfl | rfl | rfl | rfl <;>
    first | exact absurd hf (by decide) | (rcases (show m = 0 ∨ m = 1 ∨ m = 2 ∨ m = 3 ∨ m = 4 ∨ m = 5 ∨ m = 6 ∨ m = 7 ∨ m = 8 ∨ m = 9 ∨ m = 10 ∨ m = 11 ∨ m = 12 ∨ m = 13 ∨ m = 14 ∨ m = 15 by have : m < 16 := hm; omega) with rfl | rfl | rfl | rfl | rfl | rfl | rfl | rfl | rfl | rfl | rfl | rfl | rfl | rfl | rfl | rfl <;> first | rfl | exact absurd hfm (by decide) | (simp only [anX4] at e; omega))
