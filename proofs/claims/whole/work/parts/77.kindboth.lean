/-! A rule read by both: the same rule, or the same fault. -/
theorem ref_alone {c : Nat} (hc : c < 256) (w : HS) : FX9_isAlone w (nI c) = some (if aln c = true then 1 else 0, w) := by
  have ld : ∀ z, z < 128 → (nI c = nI z ↔ c = z) := fun z hz => nI_eq (by omega) (by omega)
  unfold FX9_isAlone
  by_cases h1 : c = 110
  · rw [show aln c = true from decide_eq_true (Or.inl h1)]
    exact E_t ((ld 110 (by decide)).mpr h1) rfl
  · refine E_f (fun q => h1 ((ld 110 (by decide)).mp q)) ?_
    by_cases h2 : c = 109
    · rw [show aln c = true from decide_eq_true (Or.inr (Or.inl h2))]
      exact E_t ((ld 109 (by decide)).mpr h2) rfl
    · refine E_f (fun q => h2 ((ld 109 (by decide)).mp q)) ?_
      by_cases h3 : c = 98
      · rw [show aln c = true from decide_eq_true (Or.inr (Or.inr h3))]
        exact E_t ((ld 98 (by decide)).mpr h3) rfl
      · rw [show aln c = false from decide_eq_false (fun q => by omega)]
        exact E_f (fun q => h3 ((ld 98 (by decide)).mp q)) rfl
theorem aln_lc : ∀ l, l < 7 → (aln (lc l) = decide (4 ≤ l)) := by decide
section RB
variable {w0 w u0 u : HS} {t o m kn i n p : Nat} {β : Nat → Nat} {b : Nat → Nat → Nat}
theorem KC.tp (h : KC w0 w t o i β n p b) {w' : HS} {p' : Nat} (f : Fr (P6 t) w w') (T : TP w' t β n p' 0) : KC w0 w' t o i β n p' b := by
  obtain ⟨h1, h2, h3, h4, h5, h6, h7⟩ := h
  have ne : o ≠ t := by
    intro e
    have := h1.1
    rw [← e, h2] at this
    cases this
  refine ⟨T, by rw [f.c]; exact h2, by rw [f.i (by unfold P6; omega)]; exact h3, h4.trans (f.mono (fun b k z => Or.inl z)), ?_, by rw [f.i (by unfold P6; omega)]; exact h6, ?_⟩
  · rw [f.ar (by unfold P6; omega), f.ar (by unfold P6; omega), f.ar (by unfold P6; omega), f.ar (by unfold P6; omega), f.ar (by unfold P6; omega)]
    exact h5
  · intro r r1 r2 k k1 k2
    rw [f.ar (by unfold P6; omega)]
    exact h7 r r1 r2 k k1 k2
theorem KC.cf (h : KC w0 w t o i β n p b) (hi4 : i ≤ 4) {w' : HS} {p' f' : Nat} (f : Fr (P6 t) w w') (T : TP w' t β n p' f') : KCf w0 w' t o β n f' := by
  obtain ⟨h1, h2, h3, h4, h5, h6, h7⟩ := h
  have ne : o ≠ t := by
    intro e
    have := h1.1
    rw [← e, h2] at this
    cases this
  exact ⟨h4.trans (f.mono (fun b k z => Or.inl z)), by rw [f.c]; exact h2, ⟨p', T⟩, i, hi4, by rw [f.i (by unfold P6; omega)]; exact h3⟩
theorem KR.st (h : KR u0 u m kn i β n p b) {u' : HS} {p' : Nat} (f : Fr (Pfw m) u u') (T : TR u' m β n p') : KR u0 u' m kn i β n p' b := by
  obtain ⟨h1, h2, h3, h4, h5, h6, h7⟩ := h
  refine ⟨T, by rw [f.i (by unfold Pfw; omega)]; exact h2, h3, h4.trans (f.mono (fun b k z => by unfold Pfw at z; unfold Pk; omega)), ?_, ?_, ?_⟩
  · rw [f.ar (by unfold Pfw; omega)]; exact h5
  · rw [f.ar (by unfold Pfw; omega)]; exact h6
  · rw [f.ar (by unfold Pfw; omega)]; exact h7
theorem KR.cf (h : KR u0 u m kn i β n p b) {u' : HS} {f' : Nat} (f : Fr (Pfw m) u u') (T : hi u' m 3 = nI f') : KRf u0 u' m kn f' := by
  obtain ⟨h1, h2, h3, h4, h5, h6, h7⟩ := h
  refine ⟨T, h4.trans (f.mono (fun b k z => by unfold Pfw at z; unfold Pk; omega)), ?_, ?_⟩
  · rw [f.ar (by unfold Pfw; omega)]; exact h6
  · rw [f.ar (by unfold Pfw; omega)]; exact h7
theorem ref_fails (h9 : hc u m = 9) {y q : Nat} : FX9_fails u m (nI y) (nI q) = some (0, setI u m 3 (nI (8 * q + y))) := by
  unfold FX9_fails
  refine E_c h9 (E_d ?_)
  rw [show ((8 : Int32) * nI q) + nI y = nI (8 * q + y) from by rw [l8_, nI_mul, nI_add]]
theorem rule_both (hb : ∀ i, β i < 256) (C : KC w0 w t o i β n p b) (R : KR u0 u m kn i β n p b) (V : WBi b i) :
    (i < 4 ∧ ∃ p' b', WBi b' (i + 1) ∧ Rn (FX1_scanRule w o t) (fun _ w' => KC w0 w' t o (i + 1) β n p' b') ∧ ∃ u', FX9_readsRule u m (nI i) = some (1, u') ∧ KR u0 u' m kn (i + 1) β n p' b') ∨
    (∃ f, f ≠ 0 ∧ Rn (FX1_scanRule w o t) (fun _ w' => KCf w0 w' t o β n f) ∧ ∃ u', FX9_readsRule u m (nI i) = some (0, u') ∧ KRf u0 u' m kn f) := by
  obtain ⟨V1, V2, V3, V4⟩ := id V
  have pn := C.1.2.2.2.2.2.1
  have n200 := C.1.2.2.1
  have sl := sk_le (β := β) (n := n) (p := p) pn
  obtain ⟨w1, e1, f1, t1⟩ := tp_next hb C.1
  obtain ⟨w2, e2, f2, t2⟩ := tp_take hb (s := 0) (by decide) t1
  rw [tk_sk pn] at e2 t2
  obtain ⟨u1, g1, h1, r1⟩ := tr_next hb R.1
  have R1 := R.st (Pat_Pfw h1) r1
  have b256 := hb (sk β n p)
  obtain ⟨x1, x2⟩ := ix_0 _ b256
  have C1 := C.tp f1 t1
  have beq : ∀ v, v < 256 → (bI β n (sk β n p) = nI v ↔ sk β n p < n ∧ β (sk β n p) = v) := fun v hv => bI_eq hb (by omega)
  -- is it a letter
  by_cases hL : sk β n p < n ∧ ∃ l, l < 7 ∧ β (sk β n p) = lc l
  · obtain ⟨hn, l, l7, hl⟩ := hL
    obtain ⟨lc1, la, lm, ls, lv, lk, ln, lb⟩ := lc_all l l7
    have ix := (x1 l l7).mpr hl
    have tk := tk_s (β := β) (n := n) (p := p) (s := 0) hn ix
    rw [tk] at e2 t2
    have C2 : KC w0 w2 t o i β n (sk β n p + 1) b := C1.tp f2 t2
    have hbI : bI β n (sk β n p) = nI (lc l) := (beq _ (by omega)).mpr ⟨hn, hl⟩
    rw [hbI] at g1
    have ld : ∀ z, z < 128 → (nI (lc l) = nI z ↔ lc l = z) := fun z hz => nI_eq (by omega) (by omega)
    -- the reference's way to 41
    have r36 : ∀ z : Option (Int32 × HS), FX9_readsRule_41 u1 m (nI i) (nI (lc l)) 1 = z → FX9_readsRule u m (nI i) = z := by
      intro z hz
      unfold FX9_readsRule
      refine E_c R.1.1 (E_b g1 ?_)
      dsimp only
      by_cases q1 : lc l = 118
      · exact E_t ((ld 118 (by decide)).mpr q1) hz
      · refine E_f (fun q => q1 ((ld 118 (by decide)).mp q)) ?_
        by_cases q2 : lc l = 97
        · exact E_t ((ld 97 (by decide)).mpr q2) hz
        · refine E_f (fun q => q2 ((ld 97 (by decide)).mp q)) ?_
          by_cases q3 : lc l = 115
          · exact E_t ((ld 115 (by decide)).mpr q3) hz
          · refine E_f (fun q => q3 ((ld 115 (by decide)).mp q)) ?_
            by_cases q4 : lc l = 107
            · exact E_t ((ld 107 (by decide)).mpr q4) hz
            · refine E_f (fun q => q4 ((ld 107 (by decide)).mp q)) (E_b (ref_alone (by omega) u1) ?_)
              dsimp only
              rw [aln_lc l l7, show decide (4 ≤ l) = true from decide_eq_true (by omega)]
              exact E_f i10 hz
    -- the class's way
    have cls : ∀ {Q : Unit → HS → Prop}, Rn (if (hi w2 o 0) < (4 : Int32) then (if (hi w2 o 0) ≤ 0 then (FX1_scanRule_83 w2 o t (nI l)) else
  (if (4 : Int32) ≤ nI l then (FX1_scanRule_76 w2 t (nI (sk β n p))) else
  (if (ha w2 o 2 0) = (4 : Int32) then (FX1_scanRule_76 w2 t (nI (sk β n p))) else
  (if (ha w2 o 2 0) = (5 : Int32) then (FX1_scanRule_76 w2 t (nI (sk β n p))) else
  (if (ha w2 o 2 0) = (6 : Int32) then (FX1_scanRule_76 w2 t (nI (sk β n p))) else
  (FX1_scanRule_83 w2 o t (nI l))))))) else
  ((FX6_blame w2 t (nI (sk β n p)) (2 : Int32)).bind fun q16 =>
  (some ((), q16.2)))) Q → Rn (FX1_scanRule w o t) Q := by
      intro Q hQ
      unfold FX1_scanRule
      refine Rn.okc C.2.1 (Rn.eq e1 (Rn.eq e2 (Rn.f (nI_nM (show l < 2 ^ 31 by omega)) ?_)))
      exact hQ
    have c3 := C2.2.2.1
    -- a fault told behind the letter
    have blame : ∀ y, 0 < y → y < 8 → ∃ w3, FX6_blame w2 t (nI (sk β n p)) (nI y) = some ((), w3) ∧ KCf w0 w3 t o β n (8 * sk β n p + y) := by
      intro y y0 y8
      obtain ⟨w3, e3, f3, t3⟩ := tp_blame (at' := sk β n p) (y := y) t2 (by omega) y8 y0
      rw [if_pos rfl] at t3
      exact ⟨w3, e3, C2.cf V1 f3 t3⟩
    have f76 : Rn (FX1_scanRule_76 w2 t (nI (sk β n p))) (fun _ w' => KCf w0 w' t o β n (8 * sk β n p + 3)) := by
      obtain ⟨w3, e3, k3⟩ := blame 3 (by decide) (by decide)
      unfold FX1_scanRule_76
      exact Rn.eq e3 (Rn.ret k3)
    have rf : ∀ y, y < 8 → KRf u0 (setI u1 m 3 (nI (8 * sk β n p + y))) m kn (8 * sk β n p + y) := fun y _ => R1.cf (Fr.sI ⟨rfl, by omega⟩) (by rw [hi_setI, if_pos ⟨rfl, rfl⟩])
    by_cases i4 : i = 4
    · -- the fifth
      refine Or.inr ⟨8 * sk β n p + 2, by omega, cls ?_, setI u1 m 3 (nI (8 * sk β n p + 2)), r36 _ ?_, rf 2 (by decide)⟩
      · obtain ⟨w3, e3, k3⟩ := blame 2 (by decide) (by decide)
        rw [c3, i4]
        exact Rn.f (by decide) (Rn.eq e3 (Rn.ret k3))
      · unfold FX9_readsRule_41
        refine E_f i10 (E_t (by rw [i4]; rfl) ?_)
        rw [r1.2.2.2.2.1]
        exact E_b (ref_fails r1.1 (y := 2)) (E_k nar0 rfl)
    · have i44 : i < 4 := by omega
      -- alone or not
      have frm : 0 < i → ((ha w2 o 2 0 = 4 ∨ ha w2 o 2 0 = 5 ∨ ha w2 o 2 0 = 6) ↔ aln (b 0 0) = true) := by
        intro i0
        rw [(C2.2.2.2.2.1 0 i0).1]
        have c9 := cfm_lt (i, b) 0
        have kd : ∀ z, z < 128 → (nI (cfm (i, b) 0) = nI z ↔ cfm (i, b) 0 = z) := fun z hz => nI_eq (by omega) (by omega)
        rw [show (4 : Int32) = nI 4 from rfl, show (5 : Int32) = nI 5 from rfl, show (6 : Int32) = nI 6 from rfl, kd 4 (by decide), kd 5 (by decide), kd 6 (by decide)]
        unfold aln cfm
        dsimp only
        rw [decide_eq_true_eq]
        have q := V2 0 i0
        unfold WBr at q
        rcases q with q | q | q | q | q | q | q
        · by_cases h : b 0 2 = 2 <;> simp [q.1, h]
        · by_cases h : b 0 2 = 2 <;> simp [q.1, h]
        · simp [q.1]
        · simp [q.1]
        · simp [q.1]
        · simp [q]
        · simp [q.1]
      by_cases hal : 0 < i ∧ (4 ≤ l ∨ aln (b 0 0) = true)
      · -- not alone
        obtain ⟨i0, hal⟩ := hal
        refine Or.inr ⟨8 * sk β n p + 3, by omega, cls ?_, setI u1 m 3 (nI (8 * sk β n p + 3)), r36 _ ?_, rf 3 (by decide)⟩
        · rw [c3]
          refine Rn.t (nI_lt (b := 4) i44 (by decide)) (Rn.f (nI_nle i0 (by omega)) ?_)
          by_cases q1 : 4 ≤ l
          · exact Rn.t (nI_le (a := 4) q1 (by omega)) f76
          · refine Rn.f (nI_ge (b := 4) (by omega) (by decide)) ?_
            have q2 := (frm i0).mpr (hal.resolve_left q1)
            by_cases z1 : ha w2 o 2 0 = 4
            · exact Rn.t z1 f76
            · refine Rn.f z1 ?_
              by_cases z2 : ha w2 o 2 0 = 5
              · exact Rn.t z2 f76
              · exact Rn.f z2 (Rn.t ((q2.resolve_left z1).resolve_left z2) f76)
        · unfold FX9_readsRule_41
          refine E_f i10 (E_f (fun q => i4 ((nI_eq (a := i) (b := 4) (by omega) (by decide)).mp q)) (E_f (nI_nle i0 (by omega)) (E_b (ref_alone (by omega) u1) ?_)))
          dsimp only
          have e98 : FX9_readsRule_98 u1 m = some (0, setI u1 m 3 (nI (8 * sk β n p + 3))) := by
            unfold FX9_readsRule_98
            rw [r1.2.2.2.2.1]
            exact E_b (ref_fails r1.1 (y := 3)) (E_k nar0 rfl)
          rw [aln_lc l l7]
          by_cases q1 : 4 ≤ l
          · rw [decide_eq_true q1]
            exact E_f i10 e98
          · rw [decide_eq_false q1]
            refine E_t rfl ?_
            rw [R1.2.1]
            have rr := R1.2.2.2.2.1 0 i0 0 (by decide)
            refine E_b (ruleAt_eq (r := 0) (f := 0) r1.1 (by have := R.2.2.1; omega) (by decide) (by decide)) ?_
            dsimp only
            rw [show rl u1 m kn 0 0 = nI (b 0 0) from rr]
            have b00 := V3 0 0
            refine E_b (ref_alone (by omega) u1) ?_
            dsimp only
            rw [hal.resolve_left q1]
            exact E_f i10 e98
      · -- a rule
        have kn8 := R.2.2.1
        -- reference: letter laid, row ahead of the body
        have T1' : TR (setI u1 m 2 (nI (sk β n p + 1))) m β n (sk β n p + 1) := r1.pl (by omega)
        have R2 := R1.st (Fr.sI ⟨rfl, Or.inl rfl⟩) T1'
        obtain ⟨r50, hr50⟩ : ∃ r50 : Nat → Int32, r50 = fun f => ha (setI u1 m 2 (nI (sk β n p + 1))) m 5 (20 * kn + 5 * i + f) := ⟨_, rfl⟩
        have B0 : BR (setI u1 m 2 (nI (sk β n p + 1))) (setI u1 m 2 (nI (sk β n p + 1))) m kn i β n (sk β n p + 1) r50 := ⟨T1', R2.2.1, kn8, i44, Fr.refl, fun f hf => ⟨by rw [hr50], by rw [hr50]; exact R2.2.2.2.2.2.2 _ (by omega)⟩, fun _ _ => rfl⟩
        obtain ⟨u3, e3, B3, _⟩ := br_lays B0 (f := 0) (v := nI (lc l)) (by decide) ⟨lc l, lc1, rfl⟩
        have z5 : ∀ f, f < 5 → ∃ z, z < 128 ∧ upd r50 0 (nI (lc l)) f = nI z := by
          intro f hf
          by_cases e : f = 0
          · subst e; exact ⟨lc l, lc1, upd_s _ _ _⟩
          · rw [upd_n e, hr50]
            exact R2.2.2.2.2.2.2 _ (by omega)
        -- from the row back to all rules
        have frR : ∀ {u4 : HS}, Fr (Pk m) (setI u1 m 2 (nI (sk β n p + 1))) u4 → Fr (Pk m) u0 u4 := fun f4 => R2.2.2.2.1.trans f4
        have r108 : ∀ z : Option (Int32 × HS), (FX9_readsRest u3 m (nI (lc l)) (nI i)).bind (fun q9 => (okb (vp_nar .boolean q9.1 == q9.1) (some (q9.1, q9.2)))) = z → FX9_readsRule u m (nI i) = z := by
          intro z hz
          have e108 : FX9_readsRule_108 u1 m (nI i) (nI (lc l)) = z := by
            unfold FX9_readsRule_108
            refine E_d ?_
            rw [r1.2.2.2.2.1, nI_1]
            exact E_b e3 hz
          refine r36 _ ?_
          unfold FX9_readsRule_41
          refine E_f i10 (E_f (fun q => i4 ((nI_eq (a := i) (b := 4) (by omega) (by decide)).mp q)) ?_)
          by_cases i0 : i = 0
          · exact E_t (by rw [i0]; decide) e108
          · have i0' : 0 < i := by omega
            have nl : ¬ 4 ≤ l := fun q => hal ⟨i0', Or.inl q⟩
            have na : aln (b 0 0) = false := by
              cases h : aln (b 0 0) with
              | false => rfl
              | true => exact absurd ⟨i0', Or.inr h⟩ hal
            refine E_f (nI_nle i0' (by omega)) (E_b (ref_alone (by omega) u1) ?_)
            dsimp only
            rw [aln_lc l l7, decide_eq_false nl]
            refine E_t rfl ?_
            rw [R1.2.1]
            have rr := R1.2.2.2.2.1 0 i0' 0 (by decide)
            refine E_b (ruleAt_eq (r := 0) (f := 0) r1.1 (by omega) (by decide) (by decide)) ?_
            dsimp only
            rw [show rl u1 m kn 0 0 = nI (b 0 0) from rr]
            have b00 := V3 0 0
            refine E_b (ref_alone (by omega) u1) ?_
            dsimp only
            rw [na]
            exact E_t rfl e108
        have cls83 : ∀ {Q : Unit → HS → Prop}, Rn (FX1_scanRule_83 w2 o t (nI l)) Q → Rn (FX1_scanRule w o t) Q := by
          intro Q hQ
          refine cls ?_
          rw [c3]
          refine Rn.t (nI_lt (b := 4) i44 (by decide)) ?_
          by_cases i0 : i = 0
          · exact Rn.t (by rw [i0]; decide) hQ
          · have i0' : 0 < i := by omega
            have nl : ¬ 4 ≤ l := fun q => hal ⟨i0', Or.inl q⟩
            have na : ¬ aln (b 0 0) = true := fun h => hal ⟨i0', Or.inr h⟩
            have nf := fun q => na ((frm i0').mp q)
            exact Rn.f (nI_nle i0' (by omega)) (Rn.f (nI_ge (b := 4) (by omega) (by decide)) (Rn.f (fun q => nf (Or.inl q)) (Rn.f (fun q => nf (Or.inr (Or.inl q))) (Rn.f (fun q => nf (Or.inr (Or.inr q))) hQ))))
        -- the class's body
        obtain ⟨_, w4, ew4, row, rw2, rw3, rw4, kf, kg⟩ := kc_83 hb C2 i44 l7
        have rest := ref_rest hb B3 row l7
        rcases rest with ⟨z0, u5, r5', e5, B5, OK⟩ | ⟨zn, u5, e5, B5⟩
        · obtain ⟨c, c1, c2, c0, cw, cc⟩ := row_num l7 OK (upd_s _ _ _) z5
          obtain ⟨m2, m3, m4, m5, m6⟩ := cc rw2 rw3 rw4
          refine Or.inl ⟨i44, (bodyC β n l (sk β n p + 1) 0 row).1, ext b i c, ?_, cls83 (Rn.of ew4 (kg z0 c c0 m2 m3 m4 m5 m6)), u5, r108 _ (E_b e5 (E_k nar1 rfl)), ?_⟩
          · refine ⟨by omega, fun r hr => ?_, fun r f => ?_, fun hi1 r hr => ?_⟩
            · by_cases e : r = i
              · subst e
                have : WBr (ext b r c) r = WBr (fun _ => c) 0 := by
                  unfold WBr
                  rw [ext_s]
                rw [this]
                exact cw
              · have : WBr (ext b i c) r = WBr b r := by
                  unfold WBr
                  rw [ext_n e]
                rw [this]
                exact V2 r (by omega)
            · by_cases e : r = i
              · subst e; rw [ext_s]; exact c2 f
              · rw [ext_n e]; exact V3 r f
            · have i0' : 0 < i := by omega
              have nl : ¬ 4 ≤ l := fun q => hal ⟨i0', Or.inl q⟩
              have na : aln (b 0 0) = false := by
                cases h : aln (b 0 0) with
                | false => rfl
                | true => exact absurd ⟨i0', Or.inr h⟩ hal
              by_cases e : r = i
              · subst e
                rw [ext_s, c0, aln_lc l l7, decide_eq_false nl]
              · rw [ext_n e]
                by_cases i1 : 1 < i
                · exact V4 i1 r (by omega)
                · rw [show r = 0 from by omega]; exact na
          · obtain ⟨b1, b2, b3, b4, b5, b6, b7⟩ := B5
            refine ⟨b1, b2, kn8, frR b5, fun r hr f hf => ?_, fun j hj => ?_, fun j hj => ?_⟩
            · by_cases e : r = i
              · subst e
                rw [ext_s, (b6 f hf).1, c1 f hf]
              · rw [ext_n e, b7 _ (by omega)]
                exact R2.2.2.2.2.1 r (by omega) f hf
            · rw [b7 j (by omega)]
              exact R2.2.2.2.2.2.1 j hj
            · by_cases e : 20 * kn + 5 * i ≤ j ∧ j < 20 * kn + 5 * i + 5
              · have := (b6 (j - (20 * kn + 5 * i)) (by omega)).1
                rw [show 20 * kn + 5 * i + (j - (20 * kn + 5 * i)) = j from by omega, c1 _ (by omega)] at this
                exact ⟨_, c2 _, this⟩
              · rw [b7 j e]
                exact R2.2.2.2.2.2.2 j hj
        · refine Or.inr ⟨_, zn, cls83 (Rn.of ew4 (kf zn)), u5, r108 _ (E_b e5 (E_k nar0 rfl)), ?_⟩
          obtain ⟨b1, b2, b3, b4⟩ := B5
          refine ⟨b1, frR b2, fun j hj => ?_, fun j hj => ?_⟩
          · rw [b3 j (by omega)]
            exact R2.2.2.2.2.2.1 j hj
          · by_cases e : 20 * kn + 5 * i ≤ j ∧ j < 20 * kn + 5 * i + 5
            · have := b4 (j - (20 * kn + 5 * i)) (by omega)
              rw [show 20 * kn + 5 * i + (j - (20 * kn + 5 * i)) = j from by omega] at this
              exact this
            · rw [b3 j e]
              exact R2.2.2.2.2.2.2 j hj
  · -- no letter
    have tk : tkP β n 0 p 0 = (none, sk β n p, 8 * sk β n p + 1) := tk_n (by
      by_cases hn : sk β n p < n
      · exact Or.inr (x2.mpr (fun l l7 q => hL ⟨hn, l, l7, q⟩))
      · exact Or.inl hn)
    rw [tk] at e2 t2
    have no : ∀ l, l < 7 → ¬ bI β n (sk β n p) = nI (lc l) := by
      intro l l7 q
      obtain ⟨lc1, _⟩ := lc_all l l7
      have := (beq (lc l) (by omega)).mp q
      exact hL ⟨this.1, l, l7, this.2⟩
    refine Or.inr ⟨8 * sk β n p + 1, by omega, ?_, setI u1 m 3 (nI (8 * sk β n p + 1)), ?_, R1.cf (Fr.sI ⟨rfl, by omega⟩) (by rw [hi_setI, if_pos ⟨rfl, rfl⟩])⟩
    · unfold FX1_scanRule
      exact Rn.okc C.2.1 (Rn.eq e1 (Rn.eq e2 (Rn.t rfl (Rn.ret (C1.cf V1 f2 t2)))))
    · unfold FX9_readsRule
      refine E_c R.1.1 (E_b g1 (E_f (no 0 (by decide)) (E_f (no 1 (by decide)) (E_f (no 2 (by decide)) (E_f (no 3 (by decide)) (E_b (a := (0, u1)) ?_ (E_t rfl ?_)))))))
      · unfold FX9_isAlone
        exact E_f (no 4 (by decide)) (E_f (no 5 (by decide)) (E_f (no 6 (by decide)) rfl))
      · unfold FX9_readsRule_41
        refine E_t rfl ?_
        dsimp only
        rw [r1.2.2.2.2.1]
        exact E_b (ref_fails r1.1 (y := 1)) (E_k nar0 rfl)
end RB
