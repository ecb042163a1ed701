/-! A rule and a kind, read by both. -/
/-- rule i is new -/
def ext (b : Nat → Nat → Nat) (i : Nat) (c : Nat → Nat) : Nat → Nat → Nat := fun r => if r = i then c else b r
theorem ext_s (b : Nat → Nat → Nat) (i : Nat) (c : Nat → Nat) : ext b i c i = c := if_pos rfl
theorem ext_n {b : Nat → Nat → Nat} {i r : Nat} {c : Nat → Nat} (h : r ≠ i) : ext b i c r = b r := if_neg h
theorem cfm_c {b c : Nat → Nat → Nat} {i j r s : Nat} (h : b r = c s) : cfm (i, b) r = cfm (j, c) s ∧ cfr (i, b) r = cfr (j, c) s ∧ cwr (i, b) r = cwr (j, c) s ∧ isP (i, b) r = isP (j, c) s := by
  unfold cfm cfr cwr isP
  dsimp only
  simp only [h, and_self]
def KP (w0 w' : HS) (t o i : Nat) (β : Nat → Nat) (n p : Nat) (b : Nat → Nat → Nat) (l : Nat) : Prop := ∃ row : Nat → Int32, row 2 = nI l ∧ row 3 = 0 ∧ row 4 = 0 ∧ ((bodyC β n l p 0 row).2.1 ≠ 0 → KCf w0 w' t o β n (bodyC β n l p 0 row).2.1) ∧ ((bodyC β n l p 0 row).2.1 = 0 → ∀ c : Nat → Nat, c 0 = lc l → (bodyC β n l p 0 row).2.2 2 = nI (cfm (1, fun _ => c) 0) → (bodyC β n l p 0 row).2.2 3 = nI (cfr (1, fun _ => c) 0) → (bodyC β n l p 0 row).2.2 4 = nI (cwr (1, fun _ => c) 0) → (c 0 ≠ 109 → (bodyC β n l p 0 row).2.2 5 = nI (c 3)) → (c 0 = 118 → c 2 = 2 → (bodyC β n l p 0 row).2.2 6 = nI (c 4)) → KC w0 w' t o (i + 1) β n (bodyC β n l p 0 row).1 (ext b i c))
section RUL
variable {w0 w u0 u : HS} {t o m kn i n p : Nat} {β : Nat → Nat} {b : Nat → Nat → Nat}
/-- class: a rule, as its letter stands there -/
theorem kc_83 (hb : ∀ i, β i < 256) (h : KC w0 w t o i β n p b) (hi4 : i < 4) {l : Nat} (hl : l < 7) : Rn (FX1_scanRule_83 w o t (nI l)) (fun _ w' => KP w0 w' t o i β n p b l) := by
  obtain ⟨h1, h2, h3, h4, h5, h6, h7⟩ := id h
  have ne : o ≠ t := by
    intro e
    have := h1.1
    rw [← e, h2] at this
    cases this
  unfold FX1_scanRule_83
  rw [h3]
  refine Rn.oki rfl hi4 (by decide) (Rn.bd ?_)
  rw [nI_clamp (by omega)]
  -- the row as it is ahead of the body
  obtain ⟨row0, hr0⟩ : ∃ row0 : Nat → Int32, row0 = fun k => ha w o k i := ⟨_, rfl⟩
  have B0 : BT w w t o i β n p 0 row0 := ⟨h1, h2, h3, hi4, Fr.refl, fun k _ _ => by rw [hr0], fun _ _ _ _ _ => rfl⟩
  have B1 := bt_store (k := 2) (v := nI l) B0 (by decide) (by decide)
  have row3 : upd row0 2 (nI l) 3 = 0 := by rw [upd_n (by decide), hr0]; exact h7 i (Nat.le_refl _) hi4 3 (by decide) (by decide)
  have row4 : upd row0 2 (nI l) 4 = 0 := by rw [upd_n (by decide), hr0]; exact h7 i (Nat.le_refl _) hi4 4 (by decide) (by decide)
  refine (cls_body hb B1 hl).call ?_
  intro _ w1 B
  dsimp only
  obtain ⟨g1, g2, g3, g4, g5, g6, g7⟩ := id B
  have F0 : Fr (Po t o) w w1 := g5.mono (fun b k z => by unfold Pb at z; unfold Po; omega)
  have p1 : hi w1 o 1 = nI (if anyN (isP (i, b)) i = true then 1 else 0) := by rw [g5.i (by unfold Pb; omega)]; exact h6
  -- the end: pair and the number of rules
  have fin : ∀ pv : Nat, (pv = if (anyN (isP (i, b)) i || (decide (l = 1 ∨ l = 2 ∨ l = 5 ∨ l = 6))) = true then 1 else 0) → ∀ w2, w2 = setI (setI w1 o 1 (nI pv)) o 0 (nI (i + 1)) → KP w0 w2 t o i β n p b l := by
    intro pv hpv w2 hw2
    have F2 : Fr (fun b k => b = o ∧ k ≤ 1) w1 w2 := by
      rw [hw2]
      exact (Fr.sI ⟨rfl, by omega⟩).trans (Fr.sI ⟨rfl, by omega⟩)
    have T2 := g1.fr F2 (fun k z => ne z.1.symm)
    have FF : Fr (Po t o) w0 w2 := (h4.trans F0).trans (F2.mono (fun b k z => by unfold Po; omega))
    have r0 : hi w2 o 0 = nI (i + 1) := by rw [hw2, hi_setI, if_pos ⟨rfl, rfl⟩]
    refine ⟨upd row0 2 (nI l), upd_s _ _ _, row3, row4, fun _ => ⟨FF, by rw [F2.c]; exact g2, ⟨_, T2⟩, i + 1, by omega, r0⟩, ?_⟩
    intro f0 c c0 a2 a3 a4 a5 a6
    rw [f0] at T2
    refine ⟨T2, by rw [F2.c]; exact g2, r0, FF, ?_, ?_, ?_⟩
    · intro r hr
      rw [F2.ar (by omega), F2.ar (by omega), F2.ar (by omega), F2.ar (by omega), F2.ar (by omega)]
      by_cases e : r = i
      · subst e
        rw [g6 2 (by decide) (by decide), g6 3 (by decide) (by decide), g6 4 (by decide) (by decide), g6 5 (by decide) (by decide), g6 6 (by decide) (by decide)]
        obtain ⟨m1, m2, m3, _⟩ := cfm_c (b := ext b r c) (c := fun _ => c) (i := r + 1) (j := 1) (r := r) (s := 0) (ext_s b r c)
        rw [m1, m2, m3, ext_s]
        exact ⟨a2, a3, a4, a5, a6⟩
      · rw [g7 2 (by decide) (by decide) r e, g7 3 (by decide) (by decide) r e, g7 4 (by decide) (by decide) r e, g7 5 (by decide) (by decide) r e, g7 6 (by decide) (by decide) r e]
        obtain ⟨m1, m2, m3, _⟩ := cfm_c (b := ext b i c) (c := b) (i := i + 1) (j := i) (r := r) (s := r) (ext_n e)
        rw [m1, m2, m3, ext_n e]
        exact h5 r (by omega)
    · rw [hw2, hi_setI, if_neg (by omega), hi_setI, if_pos ⟨rfl, rfl⟩, hpv]
      have e1 : anyN (isP (i + 1, ext b i c)) (i + 1) = (anyN (isP (i, b)) i || decide (l = 1 ∨ l = 2 ∨ l = 5 ∨ l = 6)) := by
        show (anyN (isP (i + 1, ext b i c)) i || isP (i + 1, ext b i c) i) = _
        rw [anyN_congr (q := isP (i, b)) (fun r hr => (cfm_c (ext_n (by omega))).2.2.2)]
        congr 1
        unfold isP
        simp only [ext_s, c0]
        rw [decide_eq_decide]
        obtain ⟨_, ca, cm, cs, cv, ck, cn, cb⟩ := lc_all l hl
        rw [ca, cm, cs, cb]
      rw [e1]
    · intro r r1 r2 k k1 k2
      rw [F2.ar (by omega), g7 k k1 k2 r (by omega)]
      exact h7 r (by omega) r2 k k1 k2
  have f128 : (anyN (isP (i, b)) i || (decide (l = 1 ∨ l = 2 ∨ l = 5 ∨ l = 6))) = true → Rn (FX1_scanRule_128 w1 o o) (fun _ w' => KP w0 w' t o i β n p b l) := by
    intro hh
    unfold FX1_scanRule_128
    refine Rn.okc g2 (Rn.bd (Rn.bd (Rn.ret ?_)))
    rw [hi_setI, if_neg (by omega), g3, nI_1]
    exact fin 1 (by rw [hh]; rfl) _ rfl
  rw [p1]
  cases ha : anyN (isP (i, b)) i with
  | true => exact Rn.f (by decide) (f128 (by rw [ha]; rfl))
  | false =>
    refine Rn.t rfl ?_
    have ld : ∀ z, z < 128 → (nI l = nI z ↔ l = z) := fun z hz => nI_eq (by omega) (by omega)
    by_cases e1 : l = 1
    · exact Rn.t ((ld 1 (by decide)).mpr e1) (f128 (by rw [decide_eq_true (Or.inl e1), Bool.or_true]))
    · refine Rn.f (fun q => e1 ((ld 1 (by decide)).mp q)) ?_
      by_cases e2 : l = 2
      · exact Rn.t ((ld 2 (by decide)).mpr e2) (f128 (by rw [decide_eq_true (Or.inr (Or.inl e2)), Bool.or_true]))
      · refine Rn.f (fun q => e2 ((ld 2 (by decide)).mp q)) ?_
        by_cases e5 : l = 5
        · exact Rn.t ((ld 5 (by decide)).mpr e5) (f128 (by rw [decide_eq_true (Or.inr (Or.inr (Or.inl e5))), Bool.or_true]))
        · refine Rn.f (fun q => e5 ((ld 5 (by decide)).mp q)) ?_
          by_cases e6 : l = 6
          · exact Rn.t ((ld 6 (by decide)).mpr e6) (f128 (by rw [decide_eq_true (Or.inr (Or.inr (Or.inr e6))), Bool.or_true]))
          · refine Rn.f (fun q => e6 ((ld 6 (by decide)).mp q)) (Rn.bd (Rn.bd (Rn.ret ?_)))
            rw [hi_setI, if_neg (by omega), g3, nI_1]
            refine fin 0 ?_ _ rfl
            rw [ha, decide_eq_false (fun q => by omega)]
            rfl
end RUL
