/-! Every call, class and reference side by side. -/
theorem sa_kind : SA IV pot (fun sz w x => FX8_kind sz w x) (fun w m => FX9_kind w m) := by
  intro sz w x m I fs
  obtain ⟨q, h, t, r, N, n, kn, mn, cnt, pos, B, MM, S, H, I⟩ := I
  obtain ⟨⟨L, hC, hR, pq, C, R, V, VH⟩, Ct, Rt, n5, w12, h0, T, D, X, Su, Se⟩ := I
  obtain ⟨z, w1, mc, ms, w2, kn', B', e8, e9, l1, l2, f, C2, R2, Ct2, Rt2, ⟨n', T2⟩, n52, kk, BB, old⟩ := kind_call C R Ct Rt h0 T n5 fs
  have h8 := C.1
  have h9 := R.1
  have q3 : hc w q = 3 := L.2.2.1.1
  have h00 : hc w h = 0 := hC.2.1
  have t6 := T.1
  have xt : x ≠ t := by intro e; rw [e, t6] at h8; cases h8
  have xm : x ≠ m := by intro e; rw [e, h9] at h8; cases h8
  have mt : m ≠ t := by intro e; rw [e, t6] at h9; cases h9
  have nb : ∀ b, hc w b ≠ 9 → hc w b ≠ 8 → hc w b ≠ 6 → ∀ k, ¬ PKq x t m b k := fun b b9 b8 b6 k y => by
    rcases y with y | y | y
    · rw [y.1] at b6; exact b6 t6
    · rw [y.1] at b8; exact b8 h8
    · rw [y.1] at b9; exact b9 h9
  have nx : ∀ k, k ≠ 1 → k ≠ 2 → ¬ PKq x t m x k := fun k a b y => by unfold PKq at y; omega
  have nm : ∀ k, 8 ≤ k → ¬ PKq x t m m k := fun k a y => by unfold PKq at y; omega
  have ob : ∀ {o : Option Nat}, (∀ k, o = some k → k < kn) → o.bind (hq w2 x 1) = o.bind (hq w x 1) := by
    intro o ho
    cases o with
    | none => rfl
    | some k => exact old k (ho k rfl)
  refine ⟨z, w1, mc, ms, w2, e8, e9, ⟨q, h, t, r, N, n', kn', mn, cnt, pos, B', MM, S, H, ⟨L.ke f (nx _ (by decide) (by decide)) (nb q (by omega) (by omega) (by omega)) (nm _ (by decide)) (nm _ (by decide)), hC.ke h8 f (nx _ (by decide) (by decide)) (nb h (by omega) (by omega) (by omega)) (fun b hb _ => nb b (by omega) (by omega) (by omega)) (fun i hi' => ob (VH i hi').2.1), hR.ke h9 f (nm _ (by decide)) (nm _ (by decide)), ?_, C2, R2, V.ext kk (Nat.le_refl _) BB (fun _ _ => rfl), fun i hi' => (VH i hi').ext kk (Nat.le_refl _) BB (fun _ _ => rfl)⟩, Ct2, Rt2, n52, ?_, ?_, T2, ?_, ?_, su_ke Su h8 f (nx _ (by decide) (by decide)), se_ke Se h8 f (nx _ (by decide) (by decide)) (fun b hb => nb b (by omega) (by omega) (by omega)) R.2.2.1 kk BB⟩, l1, ?_⟩
  · rw [f.o q3 (by decide) (nb q (by omega) (by omega) (by omega) 2), ob V.2.1]; exact pq
  · rw [f.ar h9 (by decide) (nm _ (by decide))]; exact w12
  · rw [f.o h8 (by decide) (nx _ (by decide) (by decide))]; exact h0
  · rw [f.i h8 (by decide) (nx _ (by decide) (by decide)), f.i h9 (by decide) (nm _ (by decide))]; exact D
  · rw [f.i h8 (by decide) (nx _ (by decide) (by decide))]; exact X
  · rw [pot_eq (f.o h8 (by decide) (nx _ (by decide) (by decide))) (f.o h8 (by decide) (nx _ (by decide) (by decide)))]
    omega
theorem sa_march : SA IV pot (fun sz w x => FX8_march sz w x) (fun w m => FX9_march w m) := by
  intro sz w x m I fs
  obtain ⟨q, h, t, r, N, n, kn, mn, cnt, pos, B, MM, S, H, I⟩ := I
  obtain ⟨⟨L, hC, hR, pq, C, R, V, VH⟩, Ct, Rt, n5, w12, h0, T, D, X, Su, Se⟩ := I
  obtain ⟨z, w1, mc, ms, w2, mn', MM', e8, e9, l1, l2, f, C2, R2, Ct2, Rt2, ⟨n', T2⟩, mm, MB⟩ := march_call C R Ct Rt h0 T w12 fs
  have h8 := C.1
  have h9 := R.1
  have q3 : hc w q = 3 := L.2.2.1.1
  have h00 : hc w h = 0 := hC.2.1
  have t6 := T.1
  have xt : x ≠ t := by intro e; rw [e, t6] at h8; cases h8
  have xm : x ≠ m := by intro e; rw [e, h9] at h8; cases h8
  have mt : m ≠ t := by intro e; rw [e, t6] at h9; cases h9
  have nb : ∀ b, hc w b ≠ 9 → hc w b ≠ 8 → hc w b ≠ 6 → ∀ k, ¬ PMq x t m b k := fun b b9 b8 b6 k y => by
    rcases y with y | y | y
    · rw [y.1] at b6; exact b6 t6
    · rw [y.1] at b8; exact b8 h8
    · rw [y.1] at b9; exact b9 h9
  have nx : ∀ k, k ≠ 3 → k ≠ 4 → ¬ PMq x t m x k := fun k a b y => by unfold PMq at y; omega
  have nm : ∀ k, k = 5 ∨ k = 12 ∨ 15 ≤ k → ¬ PMq x t m m k := fun k a y => by unfold PMq at y; omega
  have q1 : hq w2 x 1 = hq w x 1 := f.qq h8 (by decide) (nx _ (by decide) (by decide))
  refine ⟨z, w1, mc, ms, w2, e8, e9, ⟨q, h, t, r, N, n', kn, mn', cnt, pos, B, MM', S, H, ⟨L.ke f (nx _ (by decide) (by decide)) (nb q (by omega) (by omega) (by omega)) (nm _ (by decide)) (nm _ (by decide)), hC.ke h8 f (nx _ (by decide) (by decide)) (nb h (by omega) (by omega) (by omega)) (fun b hb _ => nb b (by omega) (by omega) (by omega)) (fun i hi' => by rw [q1]), hR.ke h9 f (nm _ (by decide)) (nm _ (by decide)), ?_, C2, R2, V.ext (Nat.le_refl _) mm (fun _ _ => rfl) MB, fun i hi' => (VH i hi').ext (Nat.le_refl _) mm (fun _ _ => rfl) MB⟩, Ct2, Rt2, n5.ke h9 f (nm _ (by decide)), ?_, ?_, T2, ?_, ?_, su_ke Su h8 f (nx _ (by decide) (by decide)), se_ke Se h8 f (nx _ (by decide) (by decide)) (fun b hb => nb b (by omega) (by omega) (by omega)) R.2.2.1 (Nat.le_refl _) (fun _ _ => rfl)⟩, l1, ?_⟩
  · rw [f.o q3 (by decide) (nb q (by omega) (by omega) (by omega) 2), q1]; exact pq
  · rw [f.ar h9 (by decide) (nm _ (by decide))]; exact w12
  · rw [f.o h8 (by decide) (nx _ (by decide) (by decide))]; exact h0
  · rw [f.i h8 (by decide) (nx _ (by decide) (by decide)), f.i h9 (by decide) (nm _ (by decide))]; exact D
  · rw [f.i h8 (by decide) (nx _ (by decide) (by decide))]; exact X
  · rw [pot_eq (f.o h8 (by decide) (nx _ (by decide) (by decide))) (f.o h8 (by decide) (nx _ (by decide) (by decide)))]
    omega
theorem steps_all : Steps IV pot := by
  refine ⟨fun u0 u1 u2 u3 u4 => sn_tape (fun w x m t n h8 h0 T => feed_both h8 h0 T u0 u1 u2 u3 u4), fun u0 => sn_tape (fun w x m t n h8 h0 T => end_both h8 h0 T u0), sa_kind, sa_march, ?_, ?_, ?_, ?_, ?_, ?_, ?_, ?_, ?_, sn_memory, ?_, ?_, ?_, ?_, ?_, ?_, ?_, sn_undo, ?_, ?_, ?_, ?_, ?_, sn_draws, sn_drawn, ?_⟩
  · exact fun u0 u1 => sn_pur (fun w x m q h t r N n kn mn cnt pos B MM S H I => by
      obtain ⟨ad, L⟩ := iv_lv I
      exact of_kind I.1.2.2.2.2.1 I.1.2.2.2.2.2.1 L u0 u1)
  · exact fun u0 u1 => sn_pur (fun w x m q h t r N n kn mn cnt pos B MM S H I => of_march I.1.2.2.2.2.1 I.1.2.2.2.2.2.1 I.2.1 I.2.2.1 u0 u1)
  · exact fun u0 u1 u2 => sn_pur (fun w x m q h t r N n kn mn cnt pos B MM S H I => of_el I.1.2.2.2.2.1 I.1.2.2.2.2.2.1 u0 u1 u2)
  · exact fun u0 u1 u2 hu => sn_ctq (fun w x m q h t r N n kn mn cnt pos B MM S H I => by
      obtain ⟨ad, L⟩ := iv_lv I
      exact caught_call I.1.2.2.2.2.1 I.1.2.2.2.2.2.1 L u0 u1 u2 hu)
  · exact fun u0 u1 u2 u3 hu => sn_ctq (fun w x m q h t r N n kn mn cnt pos B MM S H I => by
      obtain ⟨ad, L⟩ := iv_lv I
      exact escape_call I.1.2.2.2.2.1 I.1.2.2.2.2.2.1 L u0 u1 u2 u3 hu)
  · exact fun u0 u1 => sn_ctq (fun w x m q h t r N n kn mn cnt pos B MM S H I => onTwo_call I.1.2.2.2.2.1 I.1.2.2.2.2.2.1 u0 u1)
  · exact fun u0 => sn_ctq (fun w x m q h t r N n kn mn cnt pos B MM S H I => by
      obtain ⟨ad, L⟩ := iv_lv I
      exact covers_call I.1.2.2.2.2.1 I.1.2.2.2.2.2.1 L.2.2.2.2.2.2 u0)
  · exact fun u0 => sa_seq (fun sz w x m q h t r N n kn mn cnt pos B MM S H I fs => least_call I.1.2.2.2.2.1 I.1.2.2.2.2.2.1 I.2.2.2.2.2.2.2.2.2.2 fs u0)
  · exact fun u0 u1 => sa_seq (fun sz w x m q h t r N n kn mn cnt pos B MM S H I fs => walk_call I.1.2.2.2.2.1 I.1.2.2.2.2.2.1 I.2.2.2.2.2.2.2.2.2.2 fs u0 u1)
  · exact fun u0 u1 u2 => sa_act (fun sz w x m q h t r N n kn mn cnt pos B MM S H I fs => put_call I.1 fs u0 u1 u2)
  · exact sa_act (fun sz w x m q h t r N n kn mn cnt pos B MM S H I fs => heal_act I.1 fs)
  · exact fun u0 => sa_act (fun sz w x m q h t r N n kn mn cnt pos B MM S H I fs => tell_call I.1 fs u0)
  · exact fun u0 u1 => sa_act (fun sz w x m q h t r N n kn mn cnt pos B MM S H I fs => write_call I.1 fs u0 u1)
  · exact fun u0 => sa_act (fun sz w x m q h t r N n kn mn cnt pos B MM S H I fs => read_call I.1 fs u0)
  · exact fun u0 u1 => sa_act (fun sz w x m q h t r N n kn mn cnt pos B MM S H I fs => run_call I.1 fs u0 u1)
  · exact fun u0 u1 => sa_act (fun sz w x m q h t r N n kn mn cnt pos B MM S H I fs => layout_call I.1 fs u0 u1)
  · exact fun u0 u1 => sn_pur (fun w x m q h t r N n kn mn cnt pos B MM S H I => cell_call I.1.1 u0 u1)
  · exact fun u0 u1 => sn_pur (fun w x m q h t r N n kn mn cnt pos B MM S H I => log_call I.1.1 u0 u1)
  · exact fun u0 => sa_suq (fun sz w x m q h t r N n kn mn cnt pos B MM S H I fs => by
      obtain ⟨ad, G⟩ := iv_gs I
      exact fits_call G I.1.2.2.2.2.2.1 I.1.1.2.2.2.2.1 I.1.2.2.2.2.2.2.1 I.2.2.2.2.2.2.2.2.2.1 fs u0)
  · exact fun u0 => sa_suq (fun sz w x m q h t r N n kn mn cnt pos B MM S H I fs => by
      obtain ⟨ad, G⟩ := iv_gs I
      exact parts_call G I.1.2.2.2.2.2.1 I.1.1.2.2.2.2.1 I.1.2.2.2.2.2.2.1 I.2.2.2.2.2.2.2.2.2.1 fs u0)
  · exact sa_suq (fun sz w x m q h t r N n kn mn cnt pos B MM S H I fs => by
      obtain ⟨ad, G⟩ := iv_gs I
      exact ask_call G I.1.2.2.2.2.2.1 I.1.1.2.2.2.2.1 I.1.2.2.2.2.2.2.1 I.2.2.2.2.2.2.2.2.2.1 fs)
  · exact fun u0 => sn_pur (fun w x m q h t r N n kn mn cnt pos B MM S H I => count_call I.1.1 I.1.2.2.2.2.1 I.1.2.2.2.2.2.1 I.1.2.1 I.1.2.2.1 I.2.2.2.2.2.1 I.2.2.2.2.2.2.1 I.2.2.2.2.2.2.2.1 u0)
