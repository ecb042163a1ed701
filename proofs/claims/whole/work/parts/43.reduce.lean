/-! The claim out of what the calls do side by side. -/
/-- behind the two constructors -/
def Start (Inv : HS → Nat → Nat → Prop) (pot : HS → Nat → Nat) : Prop := ∀ S : Nat, ∃ (u1 u2 : Unit) (w1 w2 : HS), FX3_begin (w8 S) (S + 5) 4 = some (u1, w1) ∧ FX9_begins (nwX9 w1 (S + 13)) (S + 13) 4 = some (u2, w2) ∧ Inv w2 S (S + 13) ∧ pot w2 S ≤ 50000
set_option maxHeartbeats 4000000 in
set_option maxRecDepth 100000 in
theorem law_red {Inv : HS → Nat → Nat → Prop} {pot : HS → Nat → Nat} (stp : Steps Inv pot) (sta : Start Inv pot) {p : Program} {e : Env} {s : State} {m : MethodId} {below : List Frame} {meth : Method} {c : Code} (l : Launch) {b L : Nat} {xs : Nat → Int32} (hL : L ≤ 3072) (C0 : lw_At p s m meth c b L xs) : W p l e room_1 s m #[Value.ref b] below meth c s.heap [] 0 0 (lw_Z below #[Value.ref b] s) (entryFrame m ([Value.ref b] : List Value).toArray 4) := by
  obtain ⟨E, hE, hu⟩ := env_of C0
  obtain ⟨hx, hb, hr, hml, hown, hts, hX, hbl, hlocks, hgv⟩ := id C0
  obtain ⟨K, hK⟩ : ∃ K : HK, K = (p, l, e, s, m, #[Value.ref b], below, meth, c) := ⟨_, rfl⟩
  have C : LC K E b L xs := by
    subst hK
    exact ⟨⟨hx, hb, hml, hown, fun w h => hts w (hw_lw h), hu, hlocks, hr⟩, hX, hbl, hE, hL, rfl⟩
  obtain ⟨S, hS⟩ : ∃ S : Nat, S = s.heap.size := ⟨_, rfl⟩
  have V0 : V K E room_1 4 (LQ K b) 0 0 S (fun _ => none) 0 [(0, .ref b)] [] := by
    obtain ⟨u1, u2, w1, w2, b1, b2, I, hp⟩ := sta S
    obtain ⟨g1, T1, B1, o1, a1, a2, a3, a4, a5, a6, a7, a8, a9, a10, a11, a12⟩ := cxX8 S (fun _ => none)
    obtain ⟨ar1, c1, P1, k1⟩ := rel8 o1 a1 a2 a3 a4 a5 a6 a7 a8 a9 a10 a11 a12
    obtain ⟨g2, e2, P2⟩ := rX3_begin P1 b1
    have e8 := T1 (u1, g2) e2
    obtain ⟨g3, T3, B3, o3, d1, d2, d3, d4, d5, d6, d7, d8, d9, d10, d11, d12, d13, d14, d15, d16, d17, d18, d19, d20, d21, d22⟩ := cxX9 (S + 13) g2
    obtain ⟨ar3, c3, P3, X3, k3⟩ := rel9 P2 B3 o3 d1 d2 d3 d4 d5 d6 d7 d8 d9 d10 d11 d12 d13 d14 d15 d16 d17 d18 d19 d20 d21 d22
    obtain ⟨g4, e4, P4⟩ := rX9_begins P3 b2
    have e9 := T3 (u2, g4) e4
    refine V.new (pc := 0) C.1 kX8 (fs := dfX8) wz_c8 wz_n8 wz_i8 dfX8_ok (by decide) (by decide) dL_law_0 ?_
    refine V.dup (pc := 3) C.1 dL_law_3 rfl ?_
    refine V.callI (pc := 4) C.1 hyX8_init wz_m8 (mX8_init (r := ()) (mc := 12) (ms := 433) K.2.1 E (S + 1) e8) rfl ⟨Nat.le_of_ble_eq_true rfl, Nat.le_of_ble_eq_true rfl⟩ (Nat.le_of_ble_eq_true rfl) dL_law_4 ⟨Nat.le_of_ble_eq_true rfl, Nat.le_of_ble_eq_true rfl⟩ rfl ?_
    refine V.astore_nQ (pc := 7) (x := some S) (L' := [(1, .ref S), (0, .ref b)]) C.1 dL_law_7 (by decide) rfl ?_
    refine V.new (pc := 8) C.1 kX9 (fs := dfX9) wz_c9 wz_n9 wz_i9 dfX9_ok (by decide) (by decide) dL_law_8 ?_
    refine V.dup (pc := 11) C.1 dL_law_11 rfl ?_
    refine V.callI (pc := 12) C.1 hyX9_init wz_m9 (mX9_init (r := ()) (mc := 22) (ms := 42221) K.2.1 E (S + 13 + 1) e9) rfl ⟨Nat.le_of_ble_eq_true rfl, Nat.le_of_ble_eq_true rfl⟩ (Nat.le_of_ble_eq_true rfl) dL_law_12 ⟨Nat.le_of_ble_eq_true rfl, Nat.le_of_ble_eq_true rfl⟩ rfl ?_
    refine V.astore_nQ (pc := 15) (x := some (S + 13)) (L' := [(2, .ref (S + 13)), (1, .ref S), (0, .ref b)]) C.1 dL_law_15 (by decide) rfl ?_
    refine V.iconst (pc := 16) C.1 dL_law_16 (v := (0 : Int32)) (by decide) ?_
    refine V.istore_n (pc := 17) (L' := [(3, .int 0), (2, .ref (S + 13)), (1, .ref S), (0, .ref b)]) C.1 dL_law_17 (by decide) rfl ?_
    refine V.sub (L' := [(0, .ref b), (1, .ref S), (2, .ref (S + 13)), (3, .int (nI 0))]) [3, 2, 1, 0] rfl ?_
    exact law_loop C stp 520 0 _ _ _ _ _ _ _ (by decide) (by omega) P4 I (by decide) (by omega)
  have hl := lv_entry ([.ref b]) (n := 4) (Nat.le_of_ble_eq_true rfl)
  rw [lg_entry_eq]
  subst hK
  subst hS
  exact V0 s.heap [] _ rfl (fun _ _ h => by cases h) va_S.rf hl
