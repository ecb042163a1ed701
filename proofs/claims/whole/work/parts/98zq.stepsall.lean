/-! Every call keeps what holds. -/
section SB
variable {w w2 : HS} {x m q h t r N n kn mn cnt pos : Nat} {B : Nat → Book} {MM : Nat → Mch} {S : Me} {H : Nat → Me}
theorem iv_lv (I : IVc w x m q h t r N n kn mn cnt pos B MM S H) : ∃ ad, LVq w x q N (meP S) ad := by
  obtain ⟨⟨L, hC, hR, pq, C, R, V, VH⟩, _⟩ := I
  obtain ⟨l1, l2, l3, l4, l5, l6, l7, l8, l9⟩ := L
  obtain ⟨ad, A⟩ := V.2.2.2.2.1
  exact ⟨ad, l2, l3.1, l3.2.1, l8, l9, l3.2.2.2.2.2.2.2.2.2.2.2.1, A⟩
theorem iv_gs (I : IVc w x m q h t r N n kn mn cnt pos B MM S H) : ∃ ad, GS w x r q N kn mn (meP S) ad S B MM := by
  obtain ⟨ad, A⟩ := iv_lv I
  exact ⟨ad, I.1.2.2.2.2.1, A, I.1.1.2.2.1⟩
theorem rx_ke {P : Nat → Nat → Prop} {mp : Nat → Nat} (R : RX w m kn mn B MM N mp) (f : Ke P w w2) (n : ∀ k, 5 ≤ k → k ≤ 16 → ¬ P m k) : RX w2 m kn mn B MM N mp := by
  have h9 := R.1
  refine R.ke f (by rw [f.i h9 (by decide) (n 7 (by decide) (by decide))]; exact R.2.1) R.2.2.1 (by rw [f.i h9 (by decide) (n 11 (by decide) (by decide))]; exact R.2.2.2.1) R.2.2.2.2.1 (n _ (by decide) (by decide)) (n _ (by decide) (by decide)) (fun _ _ => rfl) (fun _ _ => rfl) (fun k hk => (R.2.2.2.2.2.1 k hk).1.ke h9 f (n _ (by decide) (by decide)) (n _ (by decide) (by decide))) (fun k hk => ?_) (fun k a b => by omega) (fun k a b => by omega)
  have := (R.2.2.2.2.2.2.1 k hk).1
  unfold RMa at this ⊢
  rw [f.ar h9 (by decide) (n 8 (by decide) (by decide)), f.ar h9 (by decide) (n 9 (by decide) (by decide))]
  exact this
/-- the tapes, or the drawn number, have changed -/
theorem iv_few {P : Nat → Nat → Prop} {n' : Nat} (I : IVc w x m q h t r N n kn mn cnt pos B MM S H) (f : Ke P w w2) (p : ∀ b k, P b k → (b = t ∧ (k = 0 ∨ k = 1)) ∨ (b = m ∧ (k = 0 ∨ k = 1 ∨ k = 39)) ∨ (b = x ∧ k = 11)) (T2 : TV w2 t m n') (D2 : hi w2 x 11 = hi w2 m 39) (X2 : ∃ X, hi w2 x 11 = nI X ∧ X < 2 ^ 31) : IVc w2 x m q h t r N n' kn mn cnt pos B MM S H ∧ hp w2 x 9 = hp w x 9 ∧ hp w2 x 10 = hp w x 10 := by
  obtain ⟨⟨L, hC, hR, pq, C, R, V, VH⟩, Ct, Rt, n5, w12, h0, T, D, X, Su, Se⟩ := I
  have h8 := C.1
  have h9 := R.1
  have q3 : hc w q = 3 := L.2.2.1.1
  have h00 : hc w h = 0 := hC.2.1
  have t6 := T.1
  have nb : ∀ b, hc w b ≠ 9 → hc w b ≠ 8 → hc w b ≠ 6 → ∀ k, ¬ P b k := fun b b9 b8 b6 k z => by
    rcases p b k z with y | y | y
    · rw [y.1] at b6; exact b6 t6
    · rw [y.1] at b9; exact b9 h9
    · rw [y.1] at b8; exact b8 h8
  have xt : x ≠ t := by intro e; rw [e, t6] at h8; cases h8
  have xm : x ≠ m := by intro e; rw [e, h9] at h8; cases h8
  have mt : m ≠ t := by intro e; rw [e, t6] at h9; cases h9
  have nx : ∀ k, k ≠ 11 → ¬ P x k := fun k hk z => by have := p x k z; omega
  have nm : ∀ k, 2 ≤ k → k ≠ 39 → ¬ P m k := fun k h1 h2 z => by have := p m k z; omega
  have q1 : hq w2 x 1 = hq w x 1 := f.qq h8 (by decide) (nx _ (by decide))
  refine ⟨⟨⟨L.ke f (nx _ (by decide)) (nb q (by omega) (by omega) (by omega)) (nm _ (by decide) (by decide)) (nm _ (by decide) (by decide)), hC.ke h8 f (nx _ (by decide)) (nb h (by omega) (by omega) (by omega)) (fun b hb _ => nb b (by omega) (by omega) (by omega)) (fun i _ => by rw [q1]), hR.ke h9 f (nm _ (by decide) (by decide)) (nm _ (by decide) (by decide)), ?_, C.ks f ⟨nx _ (by decide), nx _ (by decide), nx _ (by decide), nx _ (by decide), nx _ (by decide), nx _ (by decide)⟩ (fun p hp => nb p (by omega) (by omega) (by omega)), rx_ke R f (fun k h1 h2 => nm k (by omega) (by omega)), V, VH⟩, Ct.ke C f (nx _ (by decide)) (fun p hp => nb p (by omega) (by omega) (by omega)), Rt.ke h9 f (nm _ (by decide) (by decide)), n5.ke h9 f (nm _ (by decide) (by decide)), ?_, ?_, T2, D2, X2, su_ke Su h8 f (nx _ (by decide)), se_ke Se h8 f (nx _ (by decide)) (fun b hb => nb b (by omega) (by omega) (by omega)) R.2.2.1 (Nat.le_refl _) (fun _ _ => rfl)⟩, f.o h8 (by decide) (nx _ (by decide)), f.o h8 (by decide) (nx _ (by decide))⟩
  · rw [f.o q3 (by decide) (nb q (by omega) (by omega) (by omega) 2), q1]; exact pq
  · rw [f.ar h9 (by decide) (nm _ (by decide) (by decide))]; exact w12
  · rw [f.o h8 (by decide) (nx _ (by decide))]; exact h0
end SB
theorem sn_pur {F8 F9 : HS → Nat → Option (Int32 × HS)} (c : ∀ w x m q h t r N n kn mn cnt pos B MM S H, IVc w x m q h t r N n kn mn cnt pos B MM S H → Pur w (F8 w x) (F9 w m)) : SN IV pot F8 F9 := by
  intro w x m I
  obtain ⟨q, h, t, r, N, n, kn, mn, cnt, pos, B, MM, S, H, I⟩ := id I
  obtain ⟨z, e8, e9⟩ := c w x m q h t r N n kn mn cnt pos B MM S H I
  exact ⟨z, w, w, e8, e9, ⟨q, h, t, r, N, n, kn, mn, cnt, pos, B, MM, S, H, I⟩, Nat.le_refl _⟩
theorem sn_ctq {F8 F9 : HS → Nat → Option (Int32 × HS)} (c : ∀ w x m q h t r N n kn mn cnt pos B MM S H, IVc w x m q h t r N n kn mn cnt pos B MM S H → CTQ w x r m kn mn B MM F8 F9) : SN IV pot F8 F9 := by
  intro w x m I
  obtain ⟨q, h, t, r, N, n, kn, mn, cnt, pos, B, MM, S, H, I⟩ := I
  obtain ⟨z, w1, w2, e8, e9, F1, C1, Q⟩ := c w x m q h t r N n kn mn cnt pos B MM S H I
  have C := I.1.2.2.2.2.1
  have h8 := C.1
  have h7 := C.2.2.1
  have kn8 := C.2.2.2.2.1
  have h9 := I.1.2.2.2.2.2.1.1
  have f : Ke (PBx x r) w w1 := Ke.of F1
  have xr : x ≠ r := by intro e; rw [← e, h8] at h7; cases h7
  have nb : ∀ b, hc w b ≠ 7 → hc w b ≠ 8 → ∀ k, ¬ PBx x r b k := fun b b7 b8 k y => by
    rcases y with y | y
    · rw [y] at b7; exact b7 h7
    · rw [y.1] at b8; exact b8 h8
  have nx : ∀ k, k ≠ 8 → ¬ PBx x r x k := fun k hk y => by unfold PBx at y; omega
  have I1 := iv_keep I f C1 ⟨nx _ (by decide), nx _ (by decide), nx _ (by decide), nx _ (by decide), nx _ (by decide)⟩ (f.i h8 (by decide) (nx _ (by decide))) (fun b hb => nb b (by omega) (by omega)) (su_ke I.2.2.2.2.2.2.2.2.2.1 h8 f (nx _ (by decide))) (se_ke I.2.2.2.2.2.2.2.2.2.2 h8 f (nx _ (by decide)) (fun b hb => nb b (by omega) (by omega)) kn8 (Nat.le_refl _) (fun _ _ => rfl))
  have xm : x ≠ m := by intro e; rw [e, h9] at h8; cases h8
  have g : ∀ k, ¬ PX m x k := fun k y => xm y.1
  refine ⟨z, w1, w2, e8, e9, ⟨q, h, t, r, N, n, kn, mn, cnt, pos, B, MM, S, H, iv_quiet I1 Q⟩, Nat.le_of_eq (pot_eq ?_ ?_)⟩
  · rw [Q.1.o (g 9), F1.o (nx 9 (by decide))]
  · rw [Q.1.o (g 10), F1.o (nx 10 (by decide))]
theorem sa_act {F8 : Nat → HS → Nat → Option (Int32 × HS × Nat × Nat)} {F9 : HS → Nat → Option (Int32 × HS)} (c : ∀ sz w x m q h t r N n kn mn cnt pos B MM S H, IVc w x m q h t r N n kn mn cnt pos B MM S H → (∀ b, hc w b < 10 → b < sz) → ACT w x h q m N kn mn sz B MM F8 F9) : SA IV pot F8 F9 := by
  intro sz w x m I fs
  obtain ⟨q, h, t, r, N, n, kn, mn, cnt, pos, B, MM, S, H, I⟩ := I
  obtain ⟨z, w1, mc, ms, w2, S', cnt', pos', H', e8, e9, l1, l2, f, A⟩ := c sz w x m q h t r N n kn mn cnt pos B MM S H I fs
  obtain ⟨I2, p9, p10⟩ := iv_act I f A
  refine ⟨z, w1, mc, ms, w2, e8, e9, ⟨q, h, t, r, N, n, kn, mn, cnt', pos', B, MM, S', H', I2⟩, l1, ?_⟩
  rw [pot_eq p9 p10]
  omega
theorem sa_suq {F8 : Nat → HS → Nat → Option (Int32 × HS × Nat × Nat)} {F9 : HS → Nat → Option (Int32 × HS)} (c : ∀ sz w x m q h t r N n kn mn cnt pos B MM S H, IVc w x m q h t r N n kn mn cnt pos B MM S H → (∀ b, hc w b < 10 → b < sz) → SUQ w x r m sz F8 F9) : SA IV pot F8 F9 := by
  intro sz w x m I fs
  obtain ⟨q, h, t, r, N, n, kn, mn, cnt, pos, B, MM, S, H, I⟩ := I
  obtain ⟨z, w1, mc, ms, w2, e8, e9, f, Q, Su1, l1, l2⟩ := c sz w x m q h t r N n kn mn cnt pos B MM S H I fs
  have C := I.1.2.2.2.2.1
  have h8 := C.1
  have h7 := C.2.2.1
  have kn8 := C.2.2.2.2.1
  have h9 := I.1.2.2.2.2.2.1.1
  have xr : x ≠ r := by intro e; rw [← e, h8] at h7; cases h7
  have nb : ∀ b, hc w b ≠ 7 → hc w b ≠ 8 → hc w b ≠ 5 → ∀ k, ¬ PSu w x r b k := fun b b7 b8 b5 k y => by
    rcases y with y | y | y
    · rw [y] at b7; exact b7 h7
    · exact b5 y
    · rw [y.1] at b8; exact b8 h8
  have nx : ∀ k, k ≠ 9 → ¬ PSu w x r x k := fun k hk y => by
    rcases y with y | y | y
    · exact xr y
    · omega
    · omega
  have C1 := C.ks f ⟨nx _ (by decide), nx _ (by decide), nx _ (by decide), nx _ (by decide), nx _ (by decide), nx _ (by decide)⟩ (fun p hp => nb p (by omega) (by omega) (by omega))
  have I1 := iv_keep I f C1 ⟨nx _ (by decide), nx _ (by decide), nx _ (by decide), nx _ (by decide), nx _ (by decide)⟩ (f.i h8 (by decide) (nx _ (by decide))) (fun b hb => nb b (by omega) (by omega) (by omega)) Su1 (se_ke I.2.2.2.2.2.2.2.2.2.2 h8 f (nx _ (by decide)) (fun b hb => nb b (by omega) (by omega) (by omega)) kn8 (Nat.le_refl _) (fun _ _ => rfl))
  have xm : x ≠ m := by intro e; rw [e, h9] at h8; cases h8
  have g : ∀ k, ¬ PX m x k := fun k y => xm y.1
  refine ⟨z, w1, mc, ms, w2, e8, e9, ⟨q, h, t, r, N, n, kn, mn, cnt, pos, B, MM, S, H, iv_quiet I1 Q⟩, l1, ?_⟩
  have p10 : hp w2 x 10 = hp w x 10 := by rw [Q.1.o (g 10), f.o h8 (by decide) (nx 10 (by decide))]
  have p9 : hp w2 x 9 = hp w1 x 9 := Q.1.o (g 9)
  unfold pot
  rw [p10, p9]
  rcases l2 with ⟨a, b⟩ | ⟨a, b, d⟩
  · rw [a, b]; omega
  · rw [if_neg a]
    by_cases y : hp w x 9 = none
    · rw [if_pos y]; omega
    · rw [if_neg y, d y]; omega
theorem sa_seq {F8 : Nat → HS → Nat → Option (Int32 × HS × Nat × Nat)} {F9 : HS → Nat → Option (Int32 × HS)} (c : ∀ sz w x m q h t r N n kn mn cnt pos B MM S H, IVc w x m q h t r N n kn mn cnt pos B MM S H → (∀ b, hc w b < 10 → b < sz) → SEQ w x m kn B sz F8 F9) : SA IV pot F8 F9 := by
  intro sz w x m I fs
  obtain ⟨q, h, t, r, N, n, kn, mn, cnt, pos, B, MM, S, H, I⟩ := I
  obtain ⟨z, w1, mc, ms, w2, e8, e9, f, Q, Se1, l1, l2⟩ := c sz w x m q h t r N n kn mn cnt pos B MM S H I fs
  have C := I.1.2.2.2.2.1
  have h8 := C.1
  have h9 := I.1.2.2.2.2.2.1.1
  have nb : ∀ b, hc w b ≠ 4 → hc w b ≠ 8 → ∀ k, ¬ PSe w x b k := fun b b4 b8 k y => by
    rcases y with y | y
    · exact b4 y
    · rw [y.1] at b8; exact b8 h8
  have nx : ∀ k, k ≠ 10 → ¬ PSe w x x k := fun k hk y => by
    rcases y with y | y
    · omega
    · omega
  have C1 := C.ks f ⟨nx _ (by decide), nx _ (by decide), nx _ (by decide), nx _ (by decide), nx _ (by decide), nx _ (by decide)⟩ (fun p hp => nb p (by omega) (by omega))
  have I1 := iv_keep I f C1 ⟨nx _ (by decide), nx _ (by decide), nx _ (by decide), nx _ (by decide), nx _ (by decide)⟩ (f.i h8 (by decide) (nx _ (by decide))) (fun b hb => nb b (by omega) (by omega)) (su_ke I.2.2.2.2.2.2.2.2.2.1 h8 f (nx _ (by decide))) Se1
  have xm : x ≠ m := by intro e; rw [e, h9] at h8; cases h8
  have g : ∀ k, ¬ PX m x k := fun k y => xm y.1
  refine ⟨z, w1, mc, ms, w2, e8, e9, ⟨q, h, t, r, N, n, kn, mn, cnt, pos, B, MM, S, H, iv_quiet I1 Q⟩, l1, ?_⟩
  have p9 : hp w2 x 9 = hp w x 9 := by rw [Q.1.o (g 9), f.o h8 (by decide) (nx 9 (by decide))]
  have p10 : hp w2 x 10 = hp w1 x 10 := Q.1.o (g 10)
  unfold pot
  rw [p10, p9]
  rcases l2 with ⟨a, b⟩ | ⟨a, b, d⟩
  · rw [a, b]; omega
  · rw [if_neg a]
    by_cases y : hp w x 10 = none
    · rw [if_pos y]; omega
    · rw [if_neg y, d y]; omega
theorem sn_tape {F8 F9 : HS → Nat → Option (Int32 × HS)} (c : ∀ w x m t n, hc w x = 8 → hp w x 0 = some t → TV w t m n → TS w x t m F8 F9) : SN IV pot F8 F9 := by
  intro w x m I
  obtain ⟨q, h, t, r, N, n, kn, mn, cnt, pos, B, MM, S, H, I⟩ := I
  obtain ⟨z, w1, w2, n', e8, e9, F, T2⟩ := c w x m t n I.1.2.2.2.2.1.1 I.2.2.2.2.2.1 I.2.2.2.2.2.2.1
  have h8 := I.1.2.2.2.2.1.1
  have h9 := I.1.2.2.2.2.2.1.1
  have t6 := I.2.2.2.2.2.2.1.1
  have xt : x ≠ t := by intro e; rw [e, t6] at h8; cases h8
  have xm : x ≠ m := by intro e; rw [e, h9] at h8; cases h8
  have mt : m ≠ t := by intro e; rw [e, t6] at h9; cases h9
  obtain ⟨I2, p9, p10⟩ := iv_few I (Ke.of F) (fun b k y => by unfold P01 at y; omega) T2 (by rw [F.i (by unfold P01; omega), F.i (by unfold P01; omega)]; exact I.2.2.2.2.2.2.2.1) (by rw [F.i (by unfold P01; omega)]; exact I.2.2.2.2.2.2.2.2.1)
  exact ⟨z, w1, w2, e8, e9, ⟨q, h, t, r, N, n', kn, mn, cnt, pos, B, MM, S, H, I2⟩, Nat.le_of_eq (pot_eq p9 p10)⟩
theorem sn_draws (u : Int32) : SN IV pot (fun w x => FX8_draws w x u) (fun w m => FX9_draws w m u) := by
  intro w x m I
  obtain ⟨q, h, t, r, N, n, kn, mn, cnt, pos, B, MM, S, H, I⟩ := I
  have h8 := I.1.2.2.2.2.1.1
  have h9 := I.1.2.2.2.2.2.1.1
  have D := I.2.2.2.2.2.2.2.1
  have xm : x ≠ m := by intro e; rw [e, h9] at h8; cases h8
  by_cases hu : 0 ≤ u
  · have F : Fr (fun b k => (b = x ∧ k = 11) ∨ (b = m ∧ k = 39)) w (setI (setI w x 11 u) m 39 u) := (Fr.sI (Or.inl ⟨rfl, rfl⟩)).trans (Fr.sI (Or.inr ⟨rfl, rfl⟩))
    have e1 : hi (setI (setI w x 11 u) m 39 u) x 11 = u := by rw [hi_setI, if_neg (by omega), hi_setI, if_pos ⟨rfl, rfl⟩]
    have e2 : hi (setI (setI w x 11 u) m 39 u) m 39 = u := by rw [hi_setI, if_pos ⟨rfl, rfl⟩]
    have t6 := I.2.2.2.2.2.2.1.1
    have xt : x ≠ t := by intro e; rw [e, t6] at h8; cases h8
    have mt : m ≠ t := by intro e; rw [e, t6] at h9; cases h9
    obtain ⟨X, x1, x2⟩ := nI_of (x := u) (fun y => by
      have a := Int32.le_iff_toInt_le.mp hu
      have b := Int32.lt_iff_toInt_lt.mp y
      omega)
    obtain ⟨I2, p9, p10⟩ := iv_few I (Ke.of F) (fun b k y => by omega) (I.2.2.2.2.2.2.1.ke (Ke.of F) (by omega) (by omega) (by omega) (by omega)) (by rw [e1, e2]) ⟨X, by rw [e1]; exact x2, x1⟩
    refine ⟨hi w x 11, setI w x 11 u, setI (setI w x 11 u) m 39 u, ?_, ?_, ⟨q, h, t, r, N, n, kn, mn, cnt, pos, B, MM, S, H, I2⟩, Nat.le_of_eq (pot_eq p9 p10)⟩
    · dsimp only
      unfold FX8_draws
      exact E_c h8 (E_t hu (E_d rfl))
    · dsimp only
      unfold FX9_draws
      refine E_c h9 (E_t hu (E_d ?_))
      have : hi (setI w x 11 u) m 39 = hi w m 39 := by rw [hi_setI, if_neg (by omega)]
      rw [this, D]
  · refine ⟨-1, w, w, ?_, ?_, ⟨q, h, t, r, N, n, kn, mn, cnt, pos, B, MM, S, H, I⟩, Nat.le_refl _⟩
    · dsimp only
      unfold FX8_draws
      exact E_c h8 (E_f hu rfl)
    · dsimp only
      unfold FX9_draws
      exact E_c h9 (E_f hu rfl)
theorem sn_drawn (u0 u1 : Int32) : SN IV pot (fun w x => FX8_drawn w x u0 u1) (fun w m => FX9_drawn w m u0 u1) := by
  intro w x m I
  obtain ⟨q, h, t, r, N, n, kn, mn, cnt, pos, B, MM, S, H, I⟩ := I
  have C := I.1.2.2.2.2.1
  have h8 := C.1
  have h7 := C.2.2.1
  have kn8 := C.2.2.2.2.1
  have h9 := I.1.2.2.2.2.2.1.1
  obtain ⟨ad, L⟩ := iv_lv I
  obtain ⟨X, x1, x2⟩ := I.2.2.2.2.2.2.2.2.1
  obtain ⟨z, w1, w2, e8, e9, F1, k11, Q⟩ := drawn_call C I.1.2.2.2.2.2.1 L x1 x2 I.2.2.2.2.2.2.2.1 u0 u1
  have f : Ke (PDc x r) w w1 := Ke.of F1
  have xr : x ≠ r := by intro e; rw [← e, h8] at h7; cases h7
  have nb : ∀ b, hc w b ≠ 7 → hc w b ≠ 8 → ∀ k, ¬ PDc x r b k := fun b b7 b8 k y => by
    rcases y with y | y
    · rw [y] at b7; exact b7 h7
    · rw [y.1] at b8; exact b8 h8
  have nx : ∀ k, k ≠ 11 → ¬ PDc x r x k := fun k hk y => by unfold PDc at y; omega
  have I1 := iv_keep I f (C.dc F1) ⟨nx _ (by decide), nx _ (by decide), nx _ (by decide), nx _ (by decide), nx _ (by decide)⟩ k11 (fun b hb => nb b (by omega) (by omega)) (su_ke I.2.2.2.2.2.2.2.2.2.1 h8 f (nx _ (by decide))) (se_ke I.2.2.2.2.2.2.2.2.2.2 h8 f (nx _ (by decide)) (fun b hb => nb b (by omega) (by omega)) kn8 (Nat.le_refl _) (fun _ _ => rfl))
  have xm : x ≠ m := by intro e; rw [e, h9] at h8; cases h8
  have g : ∀ k, ¬ PX m x k := fun k y => xm y.1
  refine ⟨z, w1, w2, e8, e9, ⟨q, h, t, r, N, n, kn, mn, cnt, pos, B, MM, S, H, iv_quiet I1 Q⟩, Nat.le_of_eq (pot_eq ?_ ?_)⟩
  · rw [Q.1.o (g 9), F1.o (nx 9 (by decide))]
  · rw [Q.1.o (g 10), F1.o (nx 10 (by decide))]
theorem sn_memory (u : Int32) : SN IV pot (fun w x => FX8_memory w x u) (fun w m => FX9_memory w m u) := by
  intro w x m I
  obtain ⟨q, h, t, r, N, n, kn, mn, cnt, pos, B, MM, S, H, I⟩ := I
  obtain ⟨z, w1, w2, N', S', cnt', pos', H', e8, e9, f, A⟩ := memory_call I.1 u
  obtain ⟨I2, p9, p10⟩ := iv_act I f A
  exact ⟨z, w1, w2, e8, e9, ⟨q, h, t, r, N', n, kn, mn, cnt', pos', B, MM, S', H', I2⟩, Nat.le_of_eq (pot_eq p9 p10)⟩
theorem sn_undo : SN IV pot (fun w x => FX8_undo w x) (fun w m => FX9_undo w m) := by
  intro w x m I
  obtain ⟨q, h, t, r, N, n, kn, mn, cnt, pos, B, MM, S, H, I⟩ := I
  obtain ⟨L, hC, hR, pq, C, R, V, VH⟩ := id I.1
  have h8 := C.1
  have h9 := R.1
  have q3 : hc w q = 3 := L.2.2.1.1
  have h00 : hc w h = 0 := hC.2.1
  have xm : x ≠ m := by intro e; rw [e, h9] at h8; cases h8
  have xq : x ≠ q := by intro e; rw [e, q3] at h8; cases h8
  have xh : x ≠ h := by intro e; rw [e, h00] at h8; cases h8
  have mq : m ≠ q := by intro e; rw [e, q3] at h9; cases h9
  have mh : m ≠ h := by intro e; rw [e, h00] at h9; cases h9
  rcases undo_call h8 h9 L.2.1 q3 hC hR with ⟨_, e8, e9⟩ | ⟨c0, z, w1, w2, e8, e9, F, M2, pq2, hC2, RV2, hR2⟩
  · exact ⟨-1, w, w, e8, e9, ⟨q, h, t, r, N, n, kn, mn, cnt, pos, B, MM, S, H, I⟩, Nat.le_refl _⟩
  · have f : Ke (PAc w h m) w w2 := (Ke.of F).mono (fun b k y => by
      rcases y with y | y | y
      · exact Or.inr (Or.inl (by rw [y]; exact q3))
      · exact Or.inl y.1
      · exact Or.inr (Or.inr ⟨y.1, by omega⟩))
    have V0 := VH 0 c0
    have A : AFT w2 x h q m N kn mn (cnt - 1) (slt pos 0) B MM (H 0) (fun i => H (i + 1)) := ⟨⟨by rw [F.c]; exact h8, by rw [F.o (by omega)]; exact L.2.1, M2, by rw [F.c]; exact h9, RV2, V0.2.2.2.2.2.1, by rw [F.i (by omega)]; exact L.2.2.2.2.2.2.1, L.2.2.2.2.2.2.2.1, L.2.2.2.2.2.2.2.2⟩, pq2, hC2, hR2, V0, fun i hi' => VH (i + 1) (by omega)⟩
    obtain ⟨I2, p9, p10⟩ := iv_act I f A
    exact ⟨z, w1, w2, e8, e9, ⟨q, h, t, r, N, n, kn, mn, _, _, B, MM, _, _, I2⟩, Nat.le_of_eq (pot_eq p9 p10)⟩
