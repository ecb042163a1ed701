/-! Keeping and taking back, class and reference. -/
section HJ
variable {w : HS} {x h q m N cnt pos sz : Nat} {H : Nat → Me} {S : Me}
theorem slt_lt (pos i : Nat) : slt pos i < 20 := Nat.mod_lt _ (by decide)
/-- what keeping may change -/
def PHq (w : HS) (h q : Nat) : Nat → Nat → Prop := fun b _ => b = h ∨ (hc w b = 3 ∧ b ≠ q)
theorem keep_c (V : HC w x h q N cnt pos H) (M : MV w q N S) (hx : hc w x = 8) (pq : hp w q 2 = (meK S).bind (hq w x 1)) (fs : ∀ b, hc w b < 10 → b < sz) : ∃ w1 mc ms, FX0_keep sz w h q = some ((), w1, mc, ms) ∧ mc ≤ 3 ∧ ms ≤ 78 ∧ Ke (PHq w h q) w w1 ∧ HC w1 x h q N (c20 cnt) ((pos + 1) % 20) (hcons S H) := by
  obtain ⟨w1, mc, ms, o, e1, l1, l2, k1, m1, p1, q1, i1, i0, qo, oo⟩ := keep_cls V M fs
  obtain ⟨v1, v2, v3, v4, v5, v6, v7, v8, v9⟩ := V
  have d8 : 8 < 10 := by decide
  have d3 : 3 < 10 := by decide
  have xh : x ≠ h := by intro e; rw [e, v2] at hx; cases hx
  have ox : x ≠ o := by
    intro e
    rcases oo with z | z
    · have := (v7 pos v6 o z).1; rw [← e, hx] at this; cases this
    · have := fs x (by omega); omega
  have ko : ∀ b, hc w b < 10 → b = o → hc w b = 3 ∧ b ≠ q := by
    intro b hb e
    rcases oo with z | z
    · rw [e]; exact ⟨(v7 pos v6 o z).1, fun z => qo z.symm⟩
    · have := fs b hb; omega
  have kP : Ke (PHq w h q) w w1 := by
    intro b hb
    obtain ⟨a1, a2⟩ := k1 b hb
    refine ⟨a1, fun k n => a2 k (fun z => n ?_)⟩
    rcases z with z | z
    · exact Or.inr (ko b hb z)
    · exact Or.inl z.1
  have slot : ∀ s, hq w1 h 2 s = if s = pos then some o else hq w h 2 s := fun s => by rw [q1]; rfl
  have x1 : hq w1 x 1 = hq w x 1 := k1.qq hx d8 (by omega)
  have o3 : hc w1 o = 3 := m1.1
  have old3 : ∀ s, s < 20 → s ≠ pos → ∀ p, hq w h 2 s = some p → p ≠ o := by
    intro s hs sp p hp e
    rcases oo with z | z
    · rw [e] at hp
      exact sp (v8 s hs pos v6 o hp z)
    · have := fs p (by have := (v7 s hs p hp).1; omega); omega
  refine ⟨w1, mc, ms, e1, l1, l2, kP, ?_, k1.c v2 (by decide), i0, i1, ?_, Nat.mod_lt _ (by decide), ?_, ?_, ?_⟩
  · rw [k1.o hx d8 (by omega)]; exact v1
  · unfold c20; split <;> omega
  · intro s hs p hp
    rw [slot] at hp
    by_cases e : s = pos
    · rw [if_pos e] at hp
      cases hp
      exact ⟨o3, fun z => qo z.symm⟩
    · rw [if_neg e] at hp
      obtain ⟨p3, pq⟩ := v7 s hs p hp
      exact ⟨k1.c p3 d3, pq⟩
  · intro s hs s' hs' p hp hp'
    rw [slot] at hp hp'
    by_cases e : s = pos
    · by_cases e' : s' = pos
      · rw [e, e']
      · rw [if_pos e] at hp
        rw [if_neg e'] at hp'
        cases hp
        exact absurd rfl (old3 s' hs' e' _ hp')
    · by_cases e' : s' = pos
      · rw [if_neg e] at hp
        rw [if_pos e'] at hp'
        cases hp'
        exact absurd rfl (old3 s hs e _ hp)
      · rw [if_neg e] at hp
        rw [if_neg e'] at hp'
        exact v8 s hs s' hs' p hp hp'
  · intro i hi
    by_cases i0 : i = 0
    · subst i0
      refine ⟨o, ?_, m1, ?_⟩
      · rw [slot, show slt ((pos + 1) % 20) 0 = pos from by unfold slt; omega, if_pos rfl]
      · rw [p1, pq, x1]; rfl
    · have hs : hcons S H i = H (i - 1) := if_neg i0
      have il : i - 1 < cnt ∧ i < 20 := by unfold c20 at hi; split at hi <;> omega
      obtain ⟨p, a1, a2, a3⟩ := v9 (i - 1) il.1
      have es : slt ((pos + 1) % 20) i = slt pos (i - 1) := by unfold slt; omega
      have sp : slt pos (i - 1) ≠ pos := by unfold slt; omega
      have po := old3 _ (slt_lt _ _) sp p a1
      have ph : p ≠ h := by intro e; have := a2.1; rw [e, v2] at this; cases this
      rw [hs]
      refine ⟨p, by rw [slot, es, if_neg sp]; exact a1, a2.ke k1 (fun k z => by omega), ?_⟩
      rw [k1.o a2.1 d3 (by omega), x1]
      exact a3
theorem keep_r (V : HR w m cnt H) (h9 : hc w m = 9) (R : RV (ha w m 16) S) : ∃ w', FX9_keepsAct w m = some ((), w') ∧ Fr (P89 m) w w' ∧ HR w' m (c20 cnt) (hcons S H) := by
  obtain ⟨v1, v2, v3⟩ := V
  obtain ⟨w', e1, f1, g1, r0, r1⟩ := keep_ref h9 v1 v2
  refine ⟨w', e1, f1, g1, by unfold c20; split <;> omega, fun i hi => ?_⟩
  by_cases i0 : i = 0
  · subst i0
    refine R.cg (fun j hj => ?_)
    rw [Nat.sub_zero]
    exact r0 j hj
  · have hs : hcons S H i = H (i - 1) := if_neg i0
    have il : i - 1 < cnt := by unfold c20 at hi; split at hi <;> omega
    rw [hs]
    refine (v3 (i - 1) il).cg (fun j hj => ?_)
    have := r1 (i - 1) (by omega) j hj
    rw [show i - 1 + 1 = i from by omega] at this
    exact this
/-- class: the last act is taken back -/
theorem back_c (V : HC w x h q N cnt pos H) (hq3 : hc w q = 3) (hx : hc w x = 8) (c0 : 0 < cnt) : ∃ w1, FX0_restore w h q = some (1, w1) ∧ Fr (fun b k => b = q ∨ (b = h ∧ (k = 0 ∨ k = 1))) w w1 ∧ MV w1 q N (H 0) ∧ hp w1 q 2 = (meK (H 0)).bind (hq w1 x 1) ∧ HC w1 x h q N (cnt - 1) (slt pos 0) (fun i => H (i + 1)) := by
  obtain ⟨v1, v2, v3, v4, v5, v6, v7, v8, v9⟩ := V
  obtain ⟨o, a1, a2, a3⟩ := v9 0 c0
  have oq := (v7 _ (slt_lt _ _) o a1).2
  have qh : q ≠ h := by intro e; rw [e, v2] at hq3; cases hq3
  have xh : x ≠ h := by intro e; rw [e, v2] at hx; cases hx
  have xq : x ≠ q := by intro e; rw [e, hq3] at hx; cases hx
  obtain ⟨wc, ec, fc, mc, pc⟩ := copy_me a2 hq3 oq
  obtain ⟨w1, hw1⟩ : ∃ w1, w1 = setI (setI wc h 1 (nI (slt pos 0))) h 0 (nI (cnt - 1)) := ⟨_, rfl⟩
  have f1 : Fr (fun b k => b = h ∧ (k = 0 ∨ k = 1)) wc w1 := by rw [hw1]; exact (Fr.sI ⟨rfl, Or.inr rfl⟩).trans (Fr.sI ⟨rfl, Or.inl rfl⟩)
  have F : Fr (fun b k => b = q ∨ (b = h ∧ (k = 0 ∨ k = 1))) w w1 := (fc.mono (fun b k z => Or.inl z)).trans (f1.mono (fun b k z => Or.inr z))
  have x1 : hq w1 x 1 = hq w x 1 := F.qq (by omega)
  have sl := slt_lt pos 0
  have r18 : ∀ s0, s0 = nI (slt pos 0) → FX0_restore_18 w h q s0 = some (1, w1) := by
    intro s0 hs
    unfold FX0_restore_18
    rw [hs, v3, nI_clamp (by omega), a1]
    refine E_i rfl sl (by decide) (E_f (nI_ge (a := 0) (by omega) (by omega)) (E_b ec (E_d (E_d ?_))))
    have g : hi (setI wc h 1 (nI (slt pos 0))) h 0 = nI cnt := by
      rw [hi_setI, if_neg (by omega), fc.i (fun z => qh z.symm)]
      exact v3
    dsimp only
    rw [g, l1_, nI_subc (by omega), ← hw1]
  refine ⟨w1, ?_, F, mc.ke (Ke.of f1) (fun k z => qh z.1), by rw [f1.o (fun z => qh z.1), pc, x1]; exact a3, ?_⟩
  · unfold FX0_restore
    rw [v4]
    by_cases p0 : pos = 0
    · exact E_c v2 (E_t (by rw [p0]; decide) (r18 _ (by rw [p0]; rfl)))
    · refine E_c v2 (E_f (nI_ge (a := 0) (by omega) (by omega)) (r18 _ ?_))
      rw [l1_, nI_subc (by omega), show slt pos 0 = pos - 1 from by unfold slt; omega]
  · refine ⟨by rw [F.o (by omega)]; exact v1, by rw [F.c]; exact v2, by rw [hw1, hi_setI, if_pos ⟨rfl, rfl⟩], by rw [hw1, hi_setI, if_neg (by omega), hi_setI, if_pos ⟨rfl, rfl⟩], by omega, sl, ?_, ?_, fun i hi => ?_⟩
    · intro s hs p hp
      rw [F.qq (by omega)] at hp
      rw [F.c]
      exact v7 s hs p hp
    · intro s hs s' hs' p hp hp'
      rw [F.qq (by omega)] at hp hp'
      exact v8 s hs s' hs' p hp hp'
    · obtain ⟨p, b1, b2, b3⟩ := v9 (i + 1) (by omega)
      have pq := (v7 _ (slt_lt _ _) p b1).2
      have ph : p ≠ h := by intro e; have := b2.1; rw [e, v2] at this; cases this
      refine ⟨p, ?_, b2.ke (Ke.of F) (fun k z => by omega), ?_⟩
      · rw [F.qq (by omega), show slt (slt pos 0) i = slt pos (i + 1) from by unfold slt; omega]
        exact b1
      · rw [F.o (by omega), x1]
        exact b3
theorem back_0 (V : HC w x h q N 0 pos H) : FX0_restore w h q = some (0, w) := by
  obtain ⟨v1, v2, v3, v4, v5, v6, v7, v8, v9⟩ := V
  have r18 : ∀ s0 n, s0 = nI n → n < 20 → FX0_restore_18 w h q s0 = some (0, w) := by
    intro s0 n hs hn
    unfold FX0_restore_18
    rw [hs, v3]
    exact E_i rfl hn (by decide) (E_t (by decide) rfl)
  unfold FX0_restore
  rw [v4]
  by_cases p0 : pos = 0
  · exact E_c v2 (E_t (by rw [p0]; decide) (r18 _ 19 rfl (by decide)))
  · refine E_c v2 (E_f (nI_ge (a := 0) (by omega) (by omega)) (r18 _ (pos - 1) ?_ (by omega)))
    rw [l1_, nI_subc (by omega)]
theorem back_r (V : HR w m cnt H) (h9 : hc w m = 9) (c0 : 0 < cnt) : ∃ w', FX9_undo w m = some (nI (cnt - 1), w') ∧ Fr (fun b k => b = m ∧ (k = 16 ∨ k = 19)) w w' ∧ RV (ha w' m 16) (H 0) ∧ HR w' m (cnt - 1) (fun i => H (i + 1)) := by
  obtain ⟨v1, v2, v3⟩ := V
  obtain ⟨wa, hwa⟩ : ∃ wa, wa = setI w m 19 (nI (cnt - 1)) := ⟨_, rfl⟩
  have fa : Fr (fun b k => b = m ∧ k = 19) w wa := by rw [hwa]; exact Fr.sI ⟨rfl, rfl⟩
  have a18 : ha wa m 18 = ha w m 18 := fa.ar (by omega)
  have a19 : hi wa m 19 = nI (cnt - 1) := by rw [hwa, hi_setI, if_pos ⟨rfl, rfl⟩]
  obtain ⟨w', e1, f1, r1⟩ := undo_row (w := wa) (m := m) (c := cnt - 1) (by omega) 133 0 FUEL wa rfl (fuel_lt (by decide)) Fr.refl a19 (fun i => by rw [if_neg (by omega)])
  refine ⟨w', ?_, (fa.mono (fun b k z => by omega)).trans (f1.mono (fun b k z => by omega)), ?_, by rw [f1.i (by omega)]; exact a19, by omega, fun i hi => ?_⟩
  · unfold FX9_undo
    refine E_c h9 (E_f (by rw [v1]; exact nI_ne0 (by omega) (by omega)) (E_d ?_))
    rw [v1, l1_, nI_subc (by omega), ← hwa]
    exact e1
  · refine (v3 0 c0).cg (fun j hj => ?_)
    rw [r1 j hj, a18]
    rfl
  · refine (v3 (i + 1) (by omega)).cg (fun j hj => ?_)
    rw [f1.ar (by omega), a18, show cnt - 1 - 1 - i = cnt - 1 - (i + 1) from by omega]
end HJ
