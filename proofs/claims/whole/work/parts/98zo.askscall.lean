/-! The calls caught, escape, onTwo, covers. -/
/-- a call that may learn what a march does on two cells, and changes nothing that is told -/
def CTQ (w : HS) (x r m kn mn : Nat) (B : Nat → Book) (MM : Nat → Mch) (F8 F9 : HS → Nat → Option (Int32 × HS)) : Prop := ∃ z w1 w2, F8 w x = some (z, w1) ∧ F9 w1 m = some (z, w2) ∧ Fr (PBx x r) w w1 ∧ CX w1 x r kn mn B MM ∧ Quiet m w1 w2
theorem fsN_cg {f g : Nat → Bool} : ∀ {d i : Nat}, (∀ r, i ≤ r → r < i + d → f r = g r) → fsN f i d = fsN g i d := by
  intro d
  induction d with
  | zero => intro i _; rfl
  | succ d ih =>
    intro i h
    have e := h i (Nat.le_refl _) (by omega)
    have t := ih (i := i + 1) (fun r h1 h2 => h r (by omega) (by omega))
    by_cases q : f i = true
    · rw [fsN_t q, fsN_t (e ▸ q)]
    · rw [fsN_f q, fsN_f (fun z => q (e.trans z)), t]
section AQ
variable {w : HS} {x r q m kn mn N : Nat} {B : Nat → Book} {MM : Nat → Mch} {mp ad : Nat → Nat}
theorem bx_mi {w1 : HS} (C : CX w x r kn mn B MM) (h9 : hc w m = 9) (F : Fr (PBx x r) w w1) : hc w1 m = 9 ∧ ∀ k, hi w1 m k = hi w m k ∧ ha w1 m k = ha w m k := by
  have h8 := C.1
  have h7 := C.2.2.1
  have n : ∀ k, ¬ PBx x r m k := fun k z => by
    rcases z with z | z
    · rw [z, h7] at h9; cases h9
    · rw [z.1, h8] at h9; cases h9
  exact ⟨by rw [F.c]; exact h9, fun k => ⟨F.i (n k), F.ar (n k)⟩⟩
theorem bx_lv {w1 : HS} (C : CX w x r kn mn B MM) (L : LVq w x q N mp ad) (F : Fr (PBx x r) w w1) : LVq w1 x q N mp ad := by
  obtain ⟨l1, l2, l3, l4, l5, l6, l7⟩ := L
  have h8 := C.1
  have h7 := C.2.2.1
  have xr : x ≠ r := by intro e; rw [← e, h8] at h7; cases h7
  have n : ∀ k, ¬ PBx x r q k := fun k z => by
    rcases z with z | z
    · rw [z, h7] at l2; cases l2
    · rw [z.1, h8] at l2; cases l2
  exact ⟨by rw [F.o (by unfold PBx; omega)]; exact l1, by rw [F.c]; exact l2, by rw [F.i (n 0)]; exact l3, l4, l5, by rw [F.ar (n 10)]; exact l6, l7⟩
theorem kl_at {k mi : Nat} (C : CX w x r kn mn B MM) (L : LVq w x q N mp ad) (hk : k < kn) (hm : mi < mn) : ∃ kp mq, FX8_kindAt w x (nI k) = some (some kp, w) ∧ FX8_marchAt w x (nI mi) = some (some mq, w) ∧ KL w x r kp mq (B k) (MM mi) q N mp ad ∧ ∀ w1, CX w1 x r kn mn B MM → (hq w1 x 1 k = hq w x 1 k) → (hq w1 x 3 mi = hq w x 3 mi) → LVq w1 x q N mp ad → KL w1 x r kp mq (B k) (MM mi) q N mp ad := by
  obtain ⟨kp, e1, K, W, h1⟩ := cx_kind C hk
  obtain ⟨mq, e2, M, Wm, h2⟩ := cx_march C hm
  refine ⟨kp, mq, e1, e2, ⟨⟨C.1, C.2.1, C.2.2.1, K, W, M, Wm⟩, L⟩, fun w1 C1 g1 g2 L1 => ?_⟩
  obtain ⟨kp1, _, K1, W1, h11⟩ := cx_kind C1 hk
  obtain ⟨mq1, _, M1, Wm1, h21⟩ := cx_march C1 hm
  rw [g1, h1] at h11
  rw [g2, h2] at h21
  cases h11
  cases h21
  exact ⟨⟨C1.1, C1.2.1, C1.2.2.1, K1, W1, M1, Wm1⟩, L1⟩
theorem pt_bx {w1 w2 : HS} (C : CX w x r kn mn B MM) (F1 : Fr (PBx x r) w w1) (C1 : CX w1 x r kn mn B MM) (F2 : Fr (PT r) w1 w2) : Fr (PBx x r) w w2 ∧ CX w2 x r kn mn B MM := by
  have F : Fr (PBx x r) w1 w2 := F2.mono (fun b k z => Or.inl z)
  have xr : x ≠ r := by intro e; have := C.2.2.1; rw [← e, C.1] at this; cases this
  refine ⟨F1.trans F, C1.at F ?_⟩
  have k1 := C1.2.2.2.2.2.2.2.2.2
  unfold KN at k1 ⊢
  rw [F2.ar (show ¬ PT r x 8 from fun z => xr z)]
  exact k1
theorem caught_call (C : CX w x r kn mn B MM) (R : RX w m kn mn B MM N mp) (L : LVq w x q N mp ad) (u0 u1 u2 : Int32) (hu : u2 = 0 ∨ u2 = 1) : CTQ w x r m kn mn B MM (fun w x => FX8_caught w x u0 u1 u2) (fun w m => FX9_caught w m u0 u1 u2) := by
  have h8 := C.1
  have h9 := R.1
  have no : ∀ z, FX8_caught w x u0 u1 u2 = some (z, w) → FX9_caught w m u0 u1 u2 = some (z, w) → CTQ w x r m kn mn B MM (fun w x => FX8_caught w x u0 u1 u2) (fun w m => FX9_caught w m u0 u1 u2) := fun z e8 e9 => ⟨z, w, w, e8, e9, Fr.refl, C, Quiet.refl⟩
  obtain ⟨nr, hn⟩ : ∃ nr : Bool, u2 = 0 ↔ nr = false := by
    rcases hu with h | h
    · exact ⟨false, fun _ => rfl, fun _ => h⟩
    · exact ⟨true, fun z => by rw [h] at z; exact absurd z (by decide), fun z => by cases z⟩
  have kn8 := R.2.2.1
  have mn6 := R.2.2.2.2.1
  rcases idx (u := u1) (n := kn) (by omega) with hk' | ⟨k, hk, rfl⟩
  · refine no (-1) ?_ ?_
    · unfold FX8_caught
      exact E_c h8 (E_b (cx_nokind C hk') rfl)
    · unfold FX9_caught
      refine E_c h9 ?_
      rcases idx (u := u0) (n := mn) (by omega) with hm' | ⟨mi, hm, rfl⟩
      · exact E_b (rx_nomarch R hm') (E_t rfl rfl)
      · exact E_b (rx_march R hm) (E_f i10 (E_b (rx_nokind R hk') (E_t rfl rfl)))
  · rcases idx (u := u0) (n := mn) (by omega) with hm' | ⟨mi, hm, rfl⟩
    · refine no (-1) ?_ ?_
      · unfold FX8_caught
        obtain ⟨kp, e1, _⟩ := cx_kind C hk
        exact E_c h8 (E_b e1 (E_b (cx_nomarch C hm') rfl))
      · unfold FX9_caught
        exact E_c h9 (E_b (rx_nomarch R hm') (E_t rfl rfl))
    · obtain ⟨kp, mq, e1, e2, _, KLf⟩ := kl_at C L hk hm
      obtain ⟨z1, w1, b1, hz1, F1, C1⟩ := cx_both C hm hk
      have L1 := bx_lv C L F1
      have xr : x ≠ r := by intro e; have := C.2.2.1; rw [← e, h8] at this; cases this
      have G1 := KLf w1 C1 (by rw [F1.qq (by unfold PBx; omega)]) (by rw [F1.qq (by unfold PBx; omega)]) L1
      have W := (R.2.2.2.2.2.1 k hk).2
      have hM := (R.2.2.2.2.2.2.1 mi hm).2
      have h2 := R.2.2.2.2.2.2.2.2.1
      have h6 := R.2.2.2.2.2.2.2.2.2.1
      have n30 := (nP_pos (b := B k) h2 h6).2
      obtain ⟨z2, w2, b2, hz2, F2⟩ := kl_caught_loop G1 hn (nP (B k) N) 0 FUEL 0 w1 (by omega) (fuel_lt (by omega)) Fr.refl
      obtain ⟨F3, C3⟩ := pt_bx C F1 C1 F2
      obtain ⟨c9, mi2⟩ := bx_mi C h9 F3
      obtain ⟨z3, w3, b3, hz3, Q3⟩ := rx_caught (R.mi c9 mi2) hk hm hn
      have ez : z3 = z2 := by
        rw [hz3, hz2, Nat.zero_add]
        congr 1
        exact cntF_congr (fun p _ hp => caF_eq W hM h2 h6 (by omega) L.2.2.2.2.2.2)
      refine ⟨z2, w2, w3, ?_, by dsimp only; rw [b3, ez], F3, C3, Q3⟩
      dsimp only
      unfold FX8_caught
      rw [hz1] at b1
      refine E_c h8 (E_b e1 (E_b e2 (E_b b1 b2)))
theorem escape_call (C : CX w x r kn mn B MM) (R : RX w m kn mn B MM N mp) (L : LVq w x q N mp ad) (u0 u1 u2 u3 : Int32) (hu : u2 = 0 ∨ u2 = 1) : CTQ w x r m kn mn B MM (fun w x => FX8_escape w x u0 u1 u2 u3) (fun w m => FX9_escape w m u0 u1 u2 u3) := by
  have h8 := C.1
  have h9 := R.1
  have no : FX8_escape w x u0 u1 u2 u3 = some (-1, w) → FX9_escape w m u0 u1 u2 u3 = some (-1, w) → CTQ w x r m kn mn B MM (fun w x => FX8_escape w x u0 u1 u2 u3) (fun w m => FX9_escape w m u0 u1 u2 u3) := fun e8 e9 => ⟨-1, w, w, e8, e9, Fr.refl, C, Quiet.refl⟩
  obtain ⟨nr, hn⟩ : ∃ nr : Bool, u2 = 0 ↔ nr = false := by
    rcases hu with h | h
    · exact ⟨false, fun _ => rfl, fun _ => h⟩
    · exact ⟨true, fun z => by rw [h] at z; exact absurd z (by decide), fun z => by cases z⟩
  have kn8 := R.2.2.1
  have mn6 := R.2.2.2.2.1
  rcases idx (u := u1) (n := kn) (by omega) with hk' | ⟨k, hk, rfl⟩
  · rcases idx (u := u0) (n := mn) (by omega) with hm' | ⟨mi, hm, rfl⟩
    · refine no ?_ ?_
      · unfold FX8_escape
        exact E_c h8 (E_b (cx_nokind C hk') (E_b (cx_nomarch C hm') rfl))
      · unfold FX9_escape
        exact E_c h9 (E_b (rx_nomarch R hm') (E_t rfl rfl))
    · obtain ⟨mq, e2, _⟩ := cx_march C hm
      refine no ?_ ?_
      · unfold FX8_escape
        exact E_c h8 (E_b (cx_nokind C hk') (E_b e2 rfl))
      · unfold FX9_escape
        exact E_c h9 (E_b (rx_march R hm) (E_f i10 (E_b (rx_nokind R hk') (E_t rfl rfl))))
  · rcases idx (u := u0) (n := mn) (by omega) with hm' | ⟨mi, hm, rfl⟩
    · obtain ⟨kp, e1, _⟩ := cx_kind C hk
      refine no ?_ ?_
      · unfold FX8_escape
        exact E_c h8 (E_b e1 (E_b (cx_nomarch C hm') rfl))
      · unfold FX9_escape
        exact E_c h9 (E_b (rx_nomarch R hm') (E_t rfl rfl))
    · obtain ⟨kp, mq, e1, e2, _, KLf⟩ := kl_at C L hk hm
      rcases isin_c w u3 3 (a := 0) (b := 3) (by decide) (by decide) (by decide) with ⟨wt, wt3, rfl, ei⟩ | ⟨hw, ei⟩
      · obtain ⟨z1, w1, b1, hz1, F1, C1⟩ := cx_both C hm hk
        have L1 := bx_lv C L F1
        have xr : x ≠ r := by intro e; have := C.2.2.1; rw [← e, h8] at this; cases this
        have G1 := KLf w1 C1 (by rw [F1.qq (by unfold PBx; omega)]) (by rw [F1.qq (by unfold PBx; omega)]) L1
        have W := (R.2.2.2.2.2.1 k hk).2
        have hM := (R.2.2.2.2.2.2.1 mi hm).2
        have h2 := R.2.2.2.2.2.2.2.2.1
        have h6 := R.2.2.2.2.2.2.2.2.2.1
        have n30 := (nP_pos (b := B k) h2 h6).2
        obtain ⟨z2, w2, b2, hz2, F2⟩ := kl_esc_loop G1 hn (wt := wt) (by omega) (nP (B k) N) 0 FUEL w1 (by omega) (fuel_lt (by omega)) Fr.refl
        obtain ⟨F3, C3⟩ := pt_bx C F1 C1 F2
        obtain ⟨c9, mi2⟩ := bx_mi C h9 F3
        have R3 := R.mi c9 mi2
        obtain ⟨z3, w3, b3, hz3, Q3⟩ := ref_escape_loop (w0 := w2) (R3.rg hk hm).ka h2 hn (wt := wt) (by omega) (nP (B k) N) 0 FUEL (kA w2 m) (by omega) (fuel_lt (by omega)) TC.refl
        have ez : z3 = z2 := by
          rw [hz3, hz2]
          have : fsN (fun p => ask (B k) N nr p && !(escF (Ebl (B k) (pA (B k) N p) (pV (B k) N p) N mp (MM mi)) (nCh (MM mi)) 0 (2 ^ N)).isNone) 0 (nP (B k) N) = fsN (fun p => ask (B k) N nr p && !seen (B k) (ordP (B k) N ad p) (MM mi)) 0 (nP (B k) N) := fsN_cg (fun p _ hp => by
            rw [catch_eq W hM h2 h6 (by omega) L.2.2.2.2.2.2])
          generalize fsN (fun p => ask (B k) N nr p && !(escF (Ebl (B k) (pA (B k) N p) (pV (B k) N p) N mp (MM mi)) (nCh (MM mi)) 0 (2 ^ N)).isNone) 0 (nP (B k) N) = o1 at this ⊢
          generalize fsN (fun p => ask (B k) N nr p && !seen (B k) (ordP (B k) N ad p) (MM mi)) 0 (nP (B k) N) = o2 at this ⊢
          subst this
          cases o1 <;> rfl
        refine ⟨z2, w2, w3, ?_, ?_, F3, C3, Q3⟩
        · dsimp only
          unfold FX8_escape
          rw [hz1] at b1
          exact E_c h8 (E_b e1 (E_b e2 (E_f (nI_pos (by omega)) (E_t (nI_le (b := 3) wt3 (by decide)) (E_b b1 b2)))))
        · dsimp only
          unfold FX9_escape
          rcases isin_c w2 (nI wt) 3 (a := 0) (b := 3) (by decide) (by decide) (by decide) with ⟨_, _, _, ei'⟩ | ⟨hw, _⟩
          · rw [← ez]
            exact E_c c9 (E_b (rx_march R3 hm) (E_f i10 (E_b (rx_kind R3 hk) (E_f i10 (E_b ei' (E_f i10 (E_b (ref_keeps c9) b3)))))))
          · exact absurd rfl (ne_c hw (by omega) (by decide))
      · refine no ?_ ?_
        · unfold FX8_escape
          refine E_c h8 (E_b e1 (E_b e2 ?_))
          show (if u3 < 0 then _ else _) = _
          by_cases z : u3 < 0
          · exact E_t z rfl
          · refine E_f z (E_f ?_ rfl)
            obtain ⟨i, i1, rfl⟩ := nI_of z
            have : ¬ i < 4 := fun q => nI_ge q (by decide) (hw.resolve_left z)
            exact nI_ge (a := 3) (by omega) i1
        · unfold FX9_escape
          exact E_c h9 (E_b (rx_march R hm) (E_f i10 (E_b (rx_kind R hk) (E_f i10 (E_b ei (E_t rfl rfl))))))
theorem onTwo_call (C : CX w x r kn mn B MM) (R : RX w m kn mn B MM N mp) (u0 u1 : Int32) : CTQ w x r m kn mn B MM (fun w x => FX8_onTwo w x u0 u1) (fun w m => FX9_onTwo w m u0 u1) := by
  have h8 := C.1
  have h9 := R.1
  have no : FX8_onTwo w x u0 u1 = some (-1, w) → FX9_onTwo w m u0 u1 = some (-1, w) → CTQ w x r m kn mn B MM (fun w x => FX8_onTwo w x u0 u1) (fun w m => FX9_onTwo w m u0 u1) := fun e8 e9 => ⟨-1, w, w, e8, e9, Fr.refl, C, Quiet.refl⟩
  have kn8 := R.2.2.1
  have mn6 := R.2.2.2.2.1
  rcases idx (u := u1) (n := kn) (by omega) with hk' | ⟨k, hk, rfl⟩
  · refine no ?_ ?_
    · unfold FX8_onTwo
      exact E_c h8 (E_b (cx_nokind C hk') rfl)
    · unfold FX9_onTwo
      refine E_c h9 ?_
      rcases idx (u := u0) (n := mn) (by omega) with hm' | ⟨mi, hm, rfl⟩
      · exact E_b (rx_nomarch R hm') (E_t rfl rfl)
      · exact E_b (rx_march R hm) (E_f i10 (E_b (rx_nokind R hk') (E_t rfl rfl)))
  · obtain ⟨kp, e1, _⟩ := cx_kind C hk
    rcases idx (u := u0) (n := mn) (by omega) with hm' | ⟨mi, hm, rfl⟩
    · refine no ?_ ?_
      · unfold FX8_onTwo
        exact E_c h8 (E_b e1 (E_b (cx_nomarch C hm') rfl))
      · unfold FX9_onTwo
        exact E_c h9 (E_b (rx_nomarch R hm') (E_t rfl rfl))
    · obtain ⟨mq, e2, _⟩ := cx_march C hm
      obtain ⟨z1, w1, b1, hz1, F1, C1⟩ := cx_both C hm hk
      obtain ⟨c9, mi2⟩ := bx_mi C h9 F1
      have R1 := R.mi c9 mi2
      have rkk := R1.2.2.2.2.2.1 k hk
      have rmm := R1.2.2.2.2.2.2.1 mi hm
      obtain ⟨q2, e3, z3, w3, b3, hz3, Q3⟩ := ref_onTwo c9 rkk.1 (by omega) rkk.2 rmm.1 (by omega) rmm.2
      refine ⟨z1, w1, w3, ?_, ?_, F1, C1, Q3⟩
      · dsimp only
        unfold FX8_onTwo
        exact E_c h8 (E_b e1 (E_b e2 (E_b b1 rfl)))
      · dsimp only
        unfold FX9_onTwo
        rw [hz3, ← hz1] at b3
        exact E_c c9 (E_b (rx_march R1 hm) (E_f i10 (E_b (rx_kind R1 hk) (E_f i10 (E_b e3 b3)))))
theorem covers_call (C : CX w x r kn mn B MM) (R : RX w m kn mn B MM N mp) (A : MPok N mp ad) (u0 : Int32) : CTQ w x r m kn mn B MM (fun w x => FX8_covers w x u0) (fun w m => FX9_covers w m u0) := by
  have h8 := C.1
  have h9 := R.1
  have kn8 := R.2.2.1
  have mn6 := R.2.2.2.2.1
  rcases idx (u := u0) (n := mn) (by omega) with hm' | ⟨mi, hm, rfl⟩
  · refine ⟨-1, w, w, ?_, ?_, Fr.refl, C, Quiet.refl⟩
    · dsimp only
      unfold FX8_covers
      exact E_c h8 (E_b (cx_nomarch C hm') rfl)
    · dsimp only
      unfold FX9_covers
      exact E_c h9 (E_b (rx_nomarch R hm') (E_t rfl rfl))
  · obtain ⟨mq, e2, _⟩ := cx_march C hm
    obtain ⟨z1, w1, b1, hz1, F1, C1⟩ := cx_covers hm kn 0 FUEL 0 w (by omega) (fuel_lt (by omega)) Fr.refl C
    obtain ⟨c9, mi2⟩ := bx_mi C h9 F1
    have R1 := R.mi c9 mi2
    obtain ⟨z3, w3, b3, hz3, Q3⟩ := rx_covers_loop (w0 := w1) A hm kn 0 FUEL 0 w1 (by omega) (fuel_lt (by omega)) Quiet.refl R1
    refine ⟨z1, w1, w3, ?_, ?_, F1, C1, Q3⟩
    · dsimp only
      unfold FX8_covers
      exact E_c h8 (E_b e2 b1)
    · dsimp only
      unfold FX9_covers
      rw [hz3, ← hz1] at b3
      exact E_c c9 (E_b (rx_march R1 hm) (E_f i10 b3))
end AQ
