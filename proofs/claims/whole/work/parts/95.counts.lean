/-! count, draws, undo. -/
section CO
variable {w : HS} {x h q t r m N n kn mn cnt pos : Nat} {S : Me} {H : Nat → Me} {B : Nat → Book} {MM : Nat → Mch} {mp : Nat → Nat}
theorem count_call (L : LM w x q m N S) (C : CX w x r kn mn B MM) (R : RX w m kn mn B MM N mp) (hC : HC w x h q N cnt pos H) (hR : HR w m cnt H) (h0 : hp w x 0 = some t) (T : TV w t m n) (D : hi w x 11 = hi w m 39) (u : Int32) : Pur w (FX8_count w x u) (FX9_count w m u) := by
  obtain ⟨l1, l2, l3, l4, l5, l6, l7, l8, l9⟩ := L
  obtain ⟨m1, m2, m3, m4, m5, m6, m7, m8, m9, m10, m11, m12, m13⟩ := l3
  obtain ⟨r1, r2, r3, r4, r5, r6, r7, r8, r9, r10⟩ := l5
  have c8 : ∀ z, FX8_count w x u = z ↔ FX8_count w x u = z := fun _ => Iff.rfl
  rcases idx (u := u) (n := 11) (by decide) with hu | ⟨k, hk, rfl⟩
  · have ne : ∀ j : Nat, j < 11 → ¬ u = nI j := fun j hj => ne_c hu hj (by decide)
    refine ⟨-1, ?_, ?_⟩
    · unfold FX8_count
      exact E_c l1 (E_f (ne 0 (by decide)) (E_f (ne 1 (by decide)) (E_f (ne 2 (by decide)) (E_f (ne 3 (by decide)) (E_f (ne 4 (by decide)) (E_f (ne 5 (by decide)) (E_f (ne 6 (by decide)) (E_f (ne 7 (by decide)) (E_f (ne 8 (by decide)) (E_f (ne 9 (by decide)) (E_f (ne 10 (by decide)) rfl)))))))))))
    · unfold FX9_count
      exact E_c l4 (E_f (ne 0 (by decide)) (E_f (ne 1 (by decide)) (E_f (ne 2 (by decide)) (E_f (ne 3 (by decide)) (E_f (ne 4 (by decide)) (E_f (ne 5 (by decide)) (E_f (ne 6 (by decide)) (E_f (ne 7 (by decide)) (E_f (ne 8 (by decide)) (E_f (ne 9 (by decide)) (E_f (ne 10 (by decide)) rfl)))))))))))
  · have ne : ∀ j, j < 11 → k ≠ j → ¬ nI k = nI j := fun j hj kj z => kj ((nI_eq (by omega) (by omega)).mp z)
    have q5 : ∀ {f : Nat} {v : Int32}, hi w q f = v → ((hp w x 5).bind fun p => (okb (hc w p == 3) (some ((hi w p f), w)))) = some (v, w) := by
      intro f v hv
      rw [l2]
      refine E_b rfl (E_c m1 ?_)
      rw [hv]
    unfold FX8_count FX9_count
    have hk' : k = 0 ∨ k = 1 ∨ k = 2 ∨ k = 3 ∨ k = 4 ∨ k = 5 ∨ k = 6 ∨ k = 7 ∨ k = 8 ∨ k = 9 ∨ k = 10 := by omega
    rcases hk' with rfl | rfl | rfl | rfl | rfl | rfl | rfl | rfl | rfl | rfl | rfl
    · exact ⟨nI N, E_c l1 (E_t rfl (q5 m2)), E_c l4 (E_t rfl (by rw [l7]))⟩
    · exact ⟨nI kn, E_c l1 (E_f (by decide) (E_t rfl (by rw [C.2.2.2.1]))), E_c l4 (E_f (by decide) (E_t rfl (by rw [R.2.1])))⟩
    · exact ⟨nI mn, E_c l1 (E_f (by decide) (E_f (by decide) (E_t rfl (by rw [C.2.2.2.2.2.1])))), E_c l4 (E_f (by decide) (E_f (by decide) (E_t rfl (by rw [R.2.2.2.1]))))⟩
    · exact ⟨_, E_c l1 (E_f (by decide) (E_f (by decide) (E_f (by decide) (E_t rfl (q5 m4))))), E_c l4 (E_f (by decide) (E_f (by decide) (E_f (by decide) (E_t rfl (by rw [r2])))))⟩
    · exact ⟨_, E_c l1 (E_f (by decide) (E_f (by decide) (E_f (by decide) (E_f (by decide) (E_t rfl (q5 m5)))))), E_c l4 (E_f (by decide) (E_f (by decide) (E_f (by decide) (E_f (by decide) (E_t rfl (by rw [r3]))))))⟩
    · exact ⟨_, E_c l1 (E_f (by decide) (E_f (by decide) (E_f (by decide) (E_f (by decide) (E_f (by decide) (E_t rfl (q5 m6))))))), E_c l4 (E_f (by decide) (E_f (by decide) (E_f (by decide) (E_f (by decide) (E_f (by decide) (E_t rfl (by rw [r4])))))))⟩
    · exact ⟨_, E_c l1 (E_f (by decide) (E_f (by decide) (E_f (by decide) (E_f (by decide) (E_f (by decide) (E_f (by decide) (E_t rfl (q5 m3)))))))), E_c l4 (E_f (by decide) (E_f (by decide) (E_f (by decide) (E_f (by decide) (E_f (by decide) (E_f (by decide) (E_t rfl (by rw [r1]))))))))⟩
    · exact ⟨_, E_c l1 (E_f (by decide) (E_f (by decide) (E_f (by decide) (E_f (by decide) (E_f (by decide) (E_f (by decide) (E_f (by decide) (E_t rfl (q5 m9))))))))), E_c l4 (E_f (by decide) (E_f (by decide) (E_f (by decide) (E_f (by decide) (E_f (by decide) (E_f (by decide) (E_f (by decide) (E_t rfl (by rw [r8])))))))))⟩
    · refine ⟨nI cnt, E_c l1 (E_f (by decide) (E_f (by decide) (E_f (by decide) (E_f (by decide) (E_f (by decide) (E_f (by decide) (E_f (by decide) (E_f (by decide) (E_t rfl ?_))))))))), E_c l4 (E_f (by decide) (E_f (by decide) (E_f (by decide) (E_f (by decide) (E_f (by decide) (E_f (by decide) (E_f (by decide) (E_f (by decide) (E_t rfl (by rw [hR.1]))))))))))⟩
      rw [hC.1]
      refine E_b rfl (E_c hC.2.1 ?_)
      rw [hC.2.2.1]
    · exact ⟨_, E_c l1 (E_f (by decide) (E_f (by decide) (E_f (by decide) (E_f (by decide) (E_f (by decide) (E_f (by decide) (E_f (by decide) (E_f (by decide) (E_f (by decide) (E_t rfl rfl)))))))))), E_c l4 (E_f (by decide) (E_f (by decide) (E_f (by decide) (E_f (by decide) (E_f (by decide) (E_f (by decide) (E_f (by decide) (E_f (by decide) (E_f (by decide) (E_t rfl (by rw [D])))))))))))⟩
    · refine ⟨nI n, E_c l1 (E_f (by decide) (E_f (by decide) (E_f (by decide) (E_f (by decide) (E_f (by decide) (E_f (by decide) (E_f (by decide) (E_f (by decide) (E_f (by decide) (E_f (by decide) (E_t rfl ?_))))))))))), E_c l4 (E_f (by decide) (E_f (by decide) (E_f (by decide) (E_f (by decide) (E_f (by decide) (E_f (by decide) (E_f (by decide) (E_f (by decide) (E_f (by decide) (E_f (by decide) (E_t rfl (by rw [T.2.2.2.1]))))))))))))⟩
      rw [h0]
      refine E_b rfl (E_c T.1 ?_)
      rw [T.2.2.1]
theorem draws_call (h8 : hc w x = 8) (h9 : hc w m = 9) (D : hi w x 11 = hi w m 39) (u : Int32) : ∃ z w1 w2, FX8_draws w x u = some (z, w1) ∧ FX9_draws w1 m u = some (z, w2) ∧ Fr (fun b k => (b = x ∧ k = 11) ∨ (b = m ∧ k = 39)) w w2 ∧ hi w2 x 11 = hi w2 m 39 := by
  have xm : x ≠ m := by intro e; rw [e, h9] at h8; cases h8
  by_cases hu : 0 ≤ u
  · refine ⟨hi w x 11, setI w x 11 u, setI (setI w x 11 u) m 39 u, ?_, ?_, (Fr.sI (Or.inl ⟨rfl, rfl⟩)).trans (Fr.sI (Or.inr ⟨rfl, rfl⟩)), ?_⟩
    · unfold FX8_draws
      exact E_c h8 (E_t hu (E_d rfl))
    · unfold FX9_draws
      refine E_c h9 (E_t hu (E_d ?_))
      have : hi (setI w x 11 u) m 39 = hi w m 39 := by rw [hi_setI, if_neg (by omega)]
      rw [this, D]
    · have e1 : hi (setI (setI w x 11 u) m 39 u) x 11 = u := by rw [hi_setI, if_neg (by omega), hi_setI, if_pos ⟨rfl, rfl⟩]
      have e2 : hi (setI (setI w x 11 u) m 39 u) m 39 = u := by rw [hi_setI, if_pos ⟨rfl, rfl⟩]
      rw [e1, e2]
  · refine ⟨-1, w, w, ?_, ?_, Fr.refl, D⟩
    · unfold FX8_draws
      exact E_c h8 (E_f hu rfl)
    · unfold FX9_draws
      exact E_c h9 (E_f hu rfl)
/-- the last act taken back, by both -/
theorem undo_call (h8 : hc w x = 8) (h9 : hc w m = 9) (l2 : hp w x 5 = some q) (hq3 : hc w q = 3) (hC : HC w x h q N cnt pos H) (hR : HR w m cnt H) :
    (cnt = 0 ∧ FX8_undo w x = some (-1, w) ∧ FX9_undo w m = some (-1, w)) ∨ (0 < cnt ∧ ∃ z w1 w2, FX8_undo w x = some (z, w1) ∧ FX9_undo w1 m = some (z, w2) ∧ Fr (fun b k => b = q ∨ (b = h ∧ (k = 0 ∨ k = 1)) ∨ (b = m ∧ (k = 16 ∨ k = 19))) w w2 ∧ MV w2 q N (H 0) ∧ hp w2 q 2 = (meK (H 0)).bind (hq w2 x 1) ∧ HC w2 x h q N (cnt - 1) (slt pos 0) (fun i => H (i + 1)) ∧ RV (ha w2 m 16) (H 0) ∧ HR w2 m (cnt - 1) (fun i => H (i + 1))) := by
  have xm : x ≠ m := by intro e; rw [e, h9] at h8; cases h8
  have qm : q ≠ m := by intro e; rw [e, h9] at hq3; cases hq3
  have qx : q ≠ x := by intro e; rw [e, h8] at hq3; cases hq3
  have hm : h ≠ m := by intro e; have := hC.2.1; rw [e, h9] at this; cases this
  have hx : h ≠ x := by intro e; have := hC.2.1; rw [e, h8] at this; cases this
  by_cases c0 : cnt = 0
  · subst c0
    refine Or.inl ⟨rfl, ?_, ?_⟩
    · unfold FX8_undo
      refine E_c h8 ?_
      rw [hC.1, l2]
      exact E_b rfl (E_b rfl (E_b (back_0 hC) (E_t rfl rfl)))
    · unfold FX9_undo
      exact E_c h9 (E_t (by rw [hR.1]; rfl) rfl)
  · obtain ⟨w1, e1, f1, g1, g2, g3⟩ := back_c hC hq3 h8 (by omega)
    have R1 : HR w1 m cnt H := ⟨by rw [f1.i (by omega)]; exact hR.1, hR.2.1, fun i hi => by rw [f1.ar (by omega)]; exact hR.2.2 i hi⟩
    obtain ⟨w2, e2, f2, k1, k2⟩ := back_r R1 (by rw [f1.c]; exact h9) (by omega)
    refine Or.inr ⟨by omega, nI (cnt - 1), w1, w2, ?_, e2, (f1.mono (fun b k z => by omega)).trans (f2.mono (fun b k z => by omega)), g1.ke (Ke.of f2) (fun k z => qm z.1), ?_, ?_, k1, k2⟩
    · unfold FX8_undo
      refine E_c h8 ?_
      rw [hC.1, l2]
      refine E_b rfl (E_b rfl (E_b e1 (E_f i10 ?_)))
      dsimp only
      rw [g3.1]
      refine E_b rfl (E_c g3.2.1 ?_)
      rw [g3.2.2.1]
    · rw [f2.o (by omega), f2.qq (by omega)]
      exact g2
    · obtain ⟨v1, v2, v3, v4, v5, v6, v7, v8, v9⟩ := g3
      refine ⟨by rw [f2.o (by omega)]; exact v1, by rw [f2.c]; exact v2, by rw [f2.i (by omega)]; exact v3, by rw [f2.i (by omega)]; exact v4, v5, v6, ?_, ?_, fun i hi => ?_⟩
      · intro s hs p hp
        rw [f2.qq (by omega)] at hp
        rw [f2.c]
        exact v7 s hs p hp
      · intro s hs s' hs' p hp hp'
        rw [f2.qq (by omega)] at hp hp'
        exact v8 s hs s' hs' p hp hp'
      · obtain ⟨p, b1, b2, b3⟩ := v9 i hi
        have pm : p ≠ m := by intro e; have := b2.1; rw [e, f1.c, h9] at this; cases this
        exact ⟨p, by rw [f2.qq (by omega)]; exact b1, b2.ke (Ke.of f2) (fun k z => pm z.1), by rw [f2.o (by omega), f2.qq (by omega)]; exact b3⟩
end CO
