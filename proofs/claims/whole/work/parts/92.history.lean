/-! The history: what is kept, and taken back. -/
def slt (pos i : Nat) : Nat := (pos + 19 - i) % 20
def c20 (c : Nat) : Nat := if c < 20 then c + 1 else 20
section HI
variable {w : HS} {x h q m N cnt pos sz : Nat} {H : Nat → Me} {S : Me}
/-- reference: an act is kept -/
theorem keep_ref (h9 : hc w m = 9) (h19 : hi w m 19 = nI cnt) (le : cnt ≤ 20) : ∃ w', FX9_keepsAct w m = some ((), w') ∧ Fr (P89 m) w w' ∧ hi w' m 19 = nI (c20 cnt) ∧ (∀ j, j < 133 → ha w' m 18 (133 * (c20 cnt - 1) + j) = ha w m 16 j) ∧ ∀ i, i + 1 < c20 cnt → ∀ j, j < 133 → ha w' m 18 (133 * (c20 cnt - 1 - (i + 1)) + j) = ha w m 18 (133 * (cnt - 1 - i) + j) := by
  by_cases full : cnt = 20
  · have ec : c20 cnt = 20 := by rw [full]; rfl
    rw [ec]
    rw [full] at h19
    obtain ⟨w1, e1, f1, g1, r1⟩ := shift_rows (w := w) (m := m) 2527 133 FUEL w rfl (Nat.le_refl _) (fuel_lt (by decide)) Fr.refl h19 (fun i => by rw [if_neg (by omega)])
    obtain ⟨w2, e2, f2, g2, r2⟩ := keep_row (w := w1) (m := m) (c := 19) (by rw [f1.c]; exact h9) (by decide) 133 0 FUEL w1 rfl (fuel_lt (by decide)) Fr.refl g1 (fun i => by rw [if_neg (by omega)])
    refine ⟨w2, ?_, f1.trans f2, g2, fun j hj => ?_, fun i hi j hj => ?_⟩
    · unfold FX9_keepsAct
      refine E_c h9 (E_t (by rw [h19]; rfl) (Eq.trans e1 ?_))
      unfold FX9_keepsAct_52
      exact e2
    · rw [r2, if_pos (by omega), f1.ar (by unfold P89; omega), show 133 * (20 - 1) + j - 133 * 19 = j from by omega]
    · rw [r2, if_neg (by omega), r1 _ (by omega), full, show 133 * (20 - 1 - (i + 1)) + j + 133 = 133 * (20 - 1 - i) + j from by omega]
  · have ec : c20 cnt = cnt + 1 := if_pos (by omega)
    rw [ec]
    obtain ⟨w2, e2, f2, g2, r2⟩ := keep_row (w := w) (m := m) (c := cnt) h9 (by omega) 133 0 FUEL w rfl (fuel_lt (by decide)) Fr.refl h19 (fun i => by rw [if_neg (by omega)])
    refine ⟨w2, ?_, f2, g2, fun j hj => ?_, fun i hi j hj => ?_⟩
    · unfold FX9_keepsAct
      refine E_c h9 (E_f (by rw [h19]; exact fun z => full ((nI_eq (a := cnt) (b := 20) (by omega) (by decide)).mp z)) ?_)
      unfold FX9_keepsAct_52
      exact e2
    · rw [r2, if_pos (by omega), show 133 * (cnt + 1 - 1) + j - 133 * cnt = j from by omega]
    · rw [r2, if_neg (by omega), show 133 * (cnt + 1 - 1 - (i + 1)) + j = 133 * (cnt - 1 - i) + j from by omega]
/-- class: an act is kept in slot o -/
theorem keep_32 {o : Nat} {w : HS} {z : Nat} (M : MV w q N S) (ho : hc w o = 3) (ne : q ≠ o) (h0 : hc w h = 0) (hcn : hi w h 0 = nI cnt) (hps : hi w h 1 = nI pos) (le : cnt ≤ 20) (pl : pos < 20) : ∃ w1, FX0_keep_32 w z h q o = some ((), w1, 0, 0) ∧ Fr (fun b k => b = o ∨ (b = h ∧ (k = 0 ∨ k = 1))) w w1 ∧ MV w1 o N S ∧ hp w1 o 2 = hp w q 2 ∧ hi w1 h 1 = nI ((pos + 1) % 20) ∧ hi w1 h 0 = nI (c20 cnt) := by
  obtain ⟨wc, ec, fc, mc, pc⟩ := copy_me M ho ne
  have oh : o ≠ h := by intro e; rw [e, h0] at ho; cases ho
  have g1 : hi wc h 1 = nI pos := by rw [fc.i (fun z => oh z.symm)]; exact hps
  have g0 : hi wc h 0 = nI cnt := by rw [fc.i (fun z => oh z.symm)]; exact hcn
  obtain ⟨w1, hw1⟩ : ∃ w1, w1 = setI (setI wc h 1 (nI ((pos + 1) % 20))) h 0 (nI (c20 cnt)) := ⟨_, rfl⟩
  have f1 : Fr (fun b k => b = h ∧ (k = 0 ∨ k = 1)) wc w1 := by rw [hw1]; exact (Fr.sI ⟨rfl, Or.inr rfl⟩).trans (Fr.sI ⟨rfl, Or.inl rfl⟩)
  have k59 : ∀ p, p = nI ((pos + 1) % 20) → FX0_keep_59 wc z h p h = some ((), w1, 0, 0) := by
    intro p hp
    unfold FX0_keep_59
    refine E_c (by rw [fc.c]; exact h0) (E_d ?_)
    have g2 : hi (setI wc h 1 (nI ((pos + 1) % 20))) h 0 = nI cnt := by rw [hi_setI, if_neg (by omega)]; exact g0
    rw [hp, g2, nI_1]
    have e : (if nI (cnt + 1) < (20 : Int32) then nI (cnt + 1) else (20 : Int32)) = nI (c20 cnt) := by
      unfold c20
      by_cases a : cnt + 1 < 20
      · rw [l20_, if_pos (nI_lt a (by decide)), if_pos (by omega)]
      · rw [l20_, if_neg (nI_nlt (by omega) (by omega))]
        by_cases b : cnt < 20
        · rw [if_pos b, show cnt + 1 = 20 from by omega]
        · rw [if_neg b]
    rw [e, ← hw1]
    rfl
  refine ⟨w1, ?_, (fc.mono (fun b k z => Or.inl z)).trans (f1.mono (fun b k z => Or.inr z)), mc.ke (Ke.of f1) (fun k z => oh z.1), by rw [f1.o (fun z => oh z.1)]; exact pc, by rw [hw1, hi_setI, if_neg (by omega), hi_setI, if_pos ⟨rfl, rfl⟩], by rw [hw1, hi_setI, if_pos ⟨rfl, rfl⟩]⟩
  unfold FX0_keep_32
  refine E_b ec ?_
  dsimp only
  rw [g1, nI_1]
  by_cases a : pos + 1 < 20
  · exact E_f (nI_ge (b := 20) a (by decide)) (k59 _ (by rw [show (pos + 1) % 20 = pos + 1 from by omega]))
  · exact E_t (nI_le (a := 20) (by omega) (by omega)) (k59 _ (by rw [show (pos + 1) % 20 = 0 from by omega]; rfl))
/-- class: what is kept -/
def HC (w : HS) (x h q N cnt pos : Nat) (H : Nat → Me) : Prop := hp w x 6 = some h ∧ hc w h = 0 ∧ hi w h 0 = nI cnt ∧ hi w h 1 = nI pos ∧ cnt ≤ 20 ∧ pos < 20 ∧ (∀ s, s < 20 → ∀ o, hq w h 2 s = some o → hc w o = 3 ∧ o ≠ q) ∧ (∀ s, s < 20 → ∀ s', s' < 20 → ∀ o, hq w h 2 s = some o → hq w h 2 s' = some o → s = s') ∧ ∀ i, i < cnt → ∃ o, hq w h 2 (slt pos i) = some o ∧ MV w o N (H i) ∧ hp w o 2 = (meK (H i)).bind (hq w x 1)
/-- reference: what is kept -/
def HR (w : HS) (m cnt : Nat) (H : Nat → Me) : Prop := hi w m 19 = nI cnt ∧ cnt ≤ 20 ∧ ∀ i, i < cnt → RV (fun j => ha w m 18 (133 * (cnt - 1 - i) + j)) (H i)
def hcons (S : Me) (H : Nat → Me) : Nat → Me := fun i => if i = 0 then S else H (i - 1)
/-- class: an act is kept -/
theorem keep_cls (V : HC w x h q N cnt pos H) (M : MV w q N S) (fs : ∀ b, hc w b < 10 → b < sz) : ∃ w1 mc ms o, FX0_keep sz w h q = some ((), w1, mc, ms) ∧ mc ≤ 3 ∧ ms ≤ 78 ∧ Ke (fun b k => b = o ∨ (b = h ∧ (k = 0 ∨ k = 1 ∨ k = 2))) w w1 ∧ MV w1 o N S ∧ hp w1 o 2 = hp w q 2 ∧ hq w1 h 2 = va_up (hq w h 2) pos (some o) ∧ hi w1 h 1 = nI ((pos + 1) % 20) ∧ hi w1 h 0 = nI (c20 cnt) ∧ q ≠ o ∧ (hq w h 2 pos = some o ∨ o = sz) := by
  obtain ⟨v1, v2, v3, v4, v5, v6, v7, v8, v9⟩ := V
  have d0 : 0 < 10 := by decide
  have d3 : 3 < 10 := by decide
  have hsz : h < sz := fs h (by omega)
  have qsz : q < sz := fs q (by have := M.1; omega)
  cases ho : hq w h 2 pos with
  | some o =>
    obtain ⟨o3, oq⟩ := v7 pos v6 o ho
    have oh : o ≠ h := by intro e; rw [e, v2] at o3; cases o3
    obtain ⟨w1, e1, f1, m1, p1, i1, i0⟩ := keep_32 (z := sz) M o3 (fun e => oq e.symm) v2 v3 v4 v5 v6
    refine ⟨w1, 0, 0, o, ?_, by decide, by decide, Ke.of (f1.mono (fun b k z => by omega)), m1, p1, ?_, i1, i0, fun e => oq e.symm, Or.inl rfl⟩
    · unfold FX0_keep
      refine E_c v2 ?_
      rw [v4, nI_clamp (by omega), ho]
      exact E_i rfl v6 (by decide) e1
    · rw [f1.qq (by omega)]
      funext s
      show _ = if s = pos then some o else hq w h 2 s
      by_cases e : s = pos
      · rw [if_pos e, e]; exact ho
      · rw [if_neg e]
  | none =>
    obtain ⟨wa, hwa⟩ : ∃ wa, wa = nwX3 w sz := ⟨_, rfl⟩
    have ka : ∀ {P : Nat → Nat → Prop}, Ke P w wa := fun {P} => by rw [hwa]; exact Ke.nw fs
    have sc : hc wa sz = 3 := by rw [hwa]; exact if_pos rfl
    obtain ⟨wb, hwb⟩ : ∃ wb, wb = setQ wa h 2 pos (some sz) := ⟨_, rfl⟩
    have fb : Fr (fun b k => b = h ∧ k = 2) wa wb := by rw [hwb]; exact Fr.sQ ⟨rfl, rfl⟩
    have kb : Ke (fun b k => b = h ∧ k = 2) w wb := ka.st fb (fun b k _ z => z)
    have qh : q ≠ h := by intro e; have := M.1; rw [e, v2] at this; cases this
    obtain ⟨w1, e1, f1, m1, p1, i1, i0⟩ := keep_32 (z := (sz + 1) + 2) (w := wb) (o := sz) (M.ke kb (fun k z => qh z.1)) (by rw [fb.c]; exact sc) (by omega) (kb.c v2 d0) (by rw [kb.i v2 d0 (by omega)]; exact v3) (by rw [kb.i v2 d0 (by omega)]; exact v4) v5 v6
    refine ⟨w1, 3, 78, sz, ?_, by decide, by decide, (kb.mono (fun b k z => Or.inr ⟨z.1, Or.inr (Or.inr z.2)⟩)).st f1 (fun b k _ z => by omega), m1, ?_, ?_, i1, i0, by omega, Or.inr rfl⟩
    · unfold FX0_keep
      refine E_c v2 ?_
      rw [v4, nI_clamp (by omega), ho]
      refine E_i rfl v6 (by decide) (bmw_e (z := ((), w1, 2, 66)) (bmw_e (z := ((), w1, 0, 0)) (E_d ?_)))
      rw [← hwa, ka.i (P := fun _ _ => False) v2 d0 (fun z => z), v4, nI_clamp (by omega)]
      refine E_i rfl v6 (by decide) (E_d ?_)
      rw [← hwb]
      exact e1
    · rw [p1, kb.o M.1 d3 (fun z => qh z.1)]
    · rw [f1.qq (by omega), hwb, hq_setQ, if_pos ⟨rfl, rfl⟩, ka.qq (P := fun _ _ => False) v2 d0 (fun z => z)]
end HI
