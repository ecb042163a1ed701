/-! An element read by both. -/
section EB
variable {w0 w u0 u : HS} {t o m mn e n p : Nat} {β : Nat → Nat} {M : Mch}
theorem skip_l (hb : ∀ i, β i < 256) {s v : Nat} {ve vv : Int32} (hv : v < 3) (hm : mWd β n s v = true) : ∀ d k N u, k + d = wlen v → d < N → TR u m β n (s + k) → ∃ u' N', 0 < N' ∧ Fr (Pat m) u u' ∧ TR u' m β n (s + wlen v) ∧ FX9_readsElement_67 N u m ve vv = FX9_readsElement_67 N' u' m ve vv := by
  have hm' := hm
  unfold mWd at hm'
  rw [Bool.and_eq_true] at hm'
  obtain ⟨l4, l0, lb⟩ := wl_b v hv
  intro d
  induction d with
  | zero =>
    intro k N u he hN T
    exact ⟨u, N, by omega, Fr.refl, by rw [show wlen v = k from by omega]; exact T, rfl⟩
  | succ d ih =>
    intro k N u he hN T
    obtain ⟨N, rfl⟩ : ∃ z, N = z + 1 := ⟨N - 1, by omega⟩
    have q := mW0_le _ hm'.1 k (by omega)
    have lbk := lb k (by omega) (by omega)
    obtain ⟨u', N', n0, f1, t1, e1⟩ := ih (k + 1) N (setI u m 2 (nI (s + k + 1))) (by omega) (by omega) (T.pl (by omega))
    refine ⟨u', N', n0, (Fr.sI (p := Pat m) ⟨rfl, rfl⟩).trans f1, t1, ?_⟩
    rw [← e1, FX9_readsElement_67, T.2.2.2.2.1]
    refine E_b (tr_byte T (by have := T.2.2.1; omega)) (E_b (is_ltr hb u) ?_)
    dsimp only
    rw [show ltr β n (s + k) = true from decide_eq_true ⟨q.1, by rw [q.2]; exact lbk.2⟩]
    refine E_f i10 (E_d ?_)
    rw [T.2.2.2.2.1, nI_1]
theorem wayS_lt {s v : Nat} (h : wayS β n s = some v) : v < 3 ∧ mWd β n s v = true := by
  have := fsN_some h
  exact ⟨by omega, this.2.2⟩
/-- class: behind the way, out of any state of the tape -/
theorem el_52 (hb : ∀ i, β i < 256) {w3 : HS} {v p3 f3 : Nat} (hv : v < 3) (h2 : hc w3 o = 2) (h0 : hi w3 o 0 = nI e) (e8 : e < 8) (T : TP w3 t β n p3 f3) : ∃ w4, (∀ Q : Unit → HS → Prop, Rn ((FX2_scanOp w4 o t).bind fun q => FX2_scanElement_110 FUEL q.2 o t 0) Q → Rn (FX2_scanElement_52 w3 o t (nI v)) Q) ∧ Fr (Pm t o) w3 w4 ∧ hc w4 o = 2 ∧ TP w4 t β n (tkP β n 10 p3 f3).2.1 (tkP β n 10 p3 f3).2.2 ∧ (∀ k, k ≠ 3 → hi w4 o k = hi w3 o k) ∧ hi w4 o 3 = hi w3 o 3 + nI (if v = 2 then 1 else 0) ∧ ha w4 o 5 = upd (ha w3 o 5) e (if v = 2 then 2 + hi w3 o 3 else nI v) ∧ (∀ k, k ≠ 5 → ha w4 o k = ha w3 o k) := by
  have ne : o ≠ t := by
    intro q
    have := T.1
    rw [← q, h2] at this
    cases this
  obtain ⟨wa, hwa⟩ : ∃ wa, wa = setA w3 o 5 e (if v = 2 then 2 + hi w3 o 3 else nI v) := ⟨_, rfl⟩
  obtain ⟨wb, hwb⟩ : ∃ wb, wb = setI wa o 3 (hi w3 o 3 + nI (if v = 2 then 1 else 0)) := ⟨_, rfl⟩
  have F : Fr (fun b k => b = o ∧ (k = 3 ∨ k = 5)) w3 wb := by
    rw [hwb, hwa]
    exact (Fr.sA ⟨rfl, by omega⟩).trans (Fr.sI ⟨rfl, by omega⟩)
  have Tb := T.fr F (fun k z => ne z.1.symm)
  obtain ⟨w4, e4, f4, t4⟩ := tp_take hb (s := 10) (by decide) Tb
  refine ⟨w4, ?_, (F.mono (fun b k z => Or.inr z.1)).trans (f4.mono (fun b k z => Or.inl z)), by rw [f4.c, F.c]; exact h2, t4, ?_, ?_, ?_, ?_⟩
  · intro Q hQ
    have f91 : ∀ s0 : Int32, s0 = nI (if v = 2 then 1 else 0) → Rn (FX2_scanElement_91 wa o t s0 (hi wa o 3) o) Q := by
      intro s0 hs0
      unfold FX2_scanElement_91
      refine Rn.okc (by rw [hwa]; exact h2) (Rn.bd ?_)
      rw [show hi wa o 3 = hi w3 o 3 from by rw [hwa]; rfl, hs0, ← hwb]
      exact Rn.eq e4 hQ
    have f75 : ∀ s0 : Int32, s0 = (if v = 2 then 2 + hi w3 o 3 else nI v) → Rn (FX2_scanElement_75 w3 o t (nI v) s0 (nI e) o) Q := by
      intro s0 hs0
      unfold FX2_scanElement_75
      refine Rn.okc h2 (Rn.oki rfl e8 (by decide) (Rn.bd ?_))
      rw [nI_clamp (by omega), hs0, ← hwa]
      by_cases v2 : v = 2
      · exact Rn.t (by rw [v2]; rfl) (f91 1 (by rw [if_pos v2]; rfl))
      · exact Rn.f (fun q => v2 ((nI_eq (a := v) (b := 2) (by omega) (by decide)).mp q)) (f91 0 (by rw [if_neg v2]; rfl))
    unfold FX2_scanElement_52
    rw [h0]
    by_cases v2 : v = 2
    · exact Rn.t (by rw [v2]; rfl) (f75 _ (by rw [if_pos v2]))
    · exact Rn.f (fun q => v2 ((nI_eq (a := v) (b := 2) (by omega) (by decide)).mp q)) (f75 _ (by rw [if_neg v2]))
  · intro k hk
    rw [f4.i (by unfold P6; omega), hwb, hi_setI, if_neg (fun q => hk q.2), hwa]
    rfl
  · rw [f4.i (by unfold P6; omega), hwb, hi_setI, if_pos ⟨rfl, rfl⟩]
  · rw [f4.ar (by unfold P6; omega), hwb, ha_setI, hwa, ha_setA, if_pos ⟨rfl, rfl⟩]
  · intro k hk
    rw [f4.ar (by unfold P6; omega), hwb, ha_setI, hwa, ha_setA, if_neg (fun q => hk q.2)]
/-- class: behind a fault an element changes nothing that counts -/
theorem el_fault (hb : ∀ i, β i < 256) {w4 : HS} {f : Nat} (fn : f ≠ 0) (H : MF w0 w4 t o β n f) (h0 : hi w4 o 0 = nI e) (e8 : e < 8) : Rn ((FX2_scanOp w4 o t).bind fun q => FX2_scanElement_110 FUEL q.2 o t 0) (fun _ w' => MF w0 w' t o β n f) := by
  obtain ⟨h1, h2, _, p, T⟩ := H
  have ne : o ≠ t := by
    intro q
    have := T.1
    rw [← q, h2] at this
    cases this
  have O : OF w4 w4 t o e β n f := ⟨Fr.refl, h2, h0, p, T⟩
  refine (O.opf hb fn).call ?_
  intro _ w5 ⟨g1, g2, g3, p5, T5⟩
  obtain ⟨w6, e6, f6, t6⟩ := tp_take hb (s := 13) (by decide) T5
  rw [tk_f fn] at e6 t6
  dsimp only
  rw [show FUEL = 9999 + 1 from rfl, FX2_scanElement_110]
  refine Rn.f (by decide) (Rn.eq e6 (Rn.f (show ¬ (oI none = 0) by decide) ?_))
  obtain ⟨w7, e7, f7, k7, _⟩ := el_137 (w5 := w6) (e := e) (by rw [f6.c]; exact g2) (by rw [f6.i (by unfold P6; omega)]; exact g3) e8
  refine Rn.of e7 ⟨?_, by rw [f7.c, f6.c]; exact g2, ⟨e + 1, by omega, k7⟩, _, t6.fr f7 (fun k z => ne z.1.symm)⟩
  exact ((h1.trans (g1.mono (fun b k z => by unfold Pop at z; unfold Pm; omega))).trans (f6.mono (fun b k z => Or.inl z))).trans (f7.mono (fun b k z => Or.inr z.1))
theorem MF.el (hb : ∀ i, β i < 256) {f : Nat} (fn : f ≠ 0) (H : MF w0 w t o β n f) : Rn (FX2_scanElement w o t) (fun _ w' => MF w0 w' t o β n f) := by
  obtain ⟨h1, h2, ⟨e, e8, h0⟩, p, T⟩ := id H
  have ne : o ≠ t := by
    intro q
    have := T.1
    rw [← q, h2] at this
    cases this
  have pn := T.2.2.2.2.2.1
  have n200 := T.2.2.1
  have sl := sk_le (β := β) (n := n) (p := p) pn
  obtain ⟨w1, e1, f1, t1⟩ := tp_next hb T
  obtain ⟨w2, e2, f2, t2⟩ := tw_way hb (o := o) (by rw [f1.c]; exact h2) t1
  have H2 : ∀ {w' : HS} {p' : Nat}, Fr (P6 t) w2 w' → TP w' t β n p' f → MF w0 w' t o β n f := fun f' t' => ⟨((h1.trans (f1.mono (fun b k z => Or.inl z))).trans (f2.mono (fun b k z => Or.inl z))).trans (f'.mono (fun b k z => Or.inl z)), by rw [f'.c, f2.c, f1.c]; exact h2, ⟨e, e8, by rw [f'.i (by unfold P6; omega), f2.i (by unfold P6; omega), f1.i (by unfold P6; omega)]; exact h0⟩, _, t'⟩
  have g0 : hi w2 o 0 = nI e := by rw [f2.i (by unfold P6; omega), f1.i (by unfold P6; omega)]; exact h0
  have blame : ∀ y, 0 < y → y < 8 → Rn ((FX6_blame w2 t (nI (sk β n p)) (nI y)).bind fun q1 => some ((), q1.2)) (fun _ w' => MF w0 w' t o β n f) := by
    intro y y0 y8
    obtain ⟨w3, e3, f3, t3⟩ := tp_blame (at' := sk β n p) (y := y) t2 (by omega) y8 y0
    rw [if_neg fn] at t3
    exact Rn.eq e3 (Rn.ret (H2 f3 t3))
  unfold FX2_scanElement
  refine Rn.okc h2 (Rn.eq e1 (Rn.eq e2 ?_))
  dsimp only
  cases hw : wayS β n (sk β n (sk β n p)) with
  | none => exact Rn.t rfl (blame 1 (by decide) (by decide))
  | some v =>
    obtain ⟨v3, _⟩ := wayS_lt hw
    rw [hw] at t2
    refine Rn.f (nI_nM (show v < 2 ^ 31 by omega)) ?_
    have f45 : Rn (FX2_scanElement_45 w2 t (nI (sk β n p))) (fun _ w' => MF w0 w' t o β n f) := blame 2 (by decide) (by decide)
    rw [g0]
    by_cases e88 : e = 8
    · exact Rn.t (by rw [e88]; decide) f45
    · refine Rn.f (nI_ge (b := 8) (by omega) (by decide)) ?_
      have f52 : Rn (FX2_scanElement_52 w2 o t (nI v)) (fun _ w' => MF w0 w' t o β n f) := by
        obtain ⟨w4, k1, k2, k3, k4, k5, k6, k7, k8⟩ := el_52 hb v3 (show hc w2 o = 2 by rw [f2.c, f1.c]; exact h2) g0 (show e < 8 by omega) t2
        rw [tk_f fn] at k4
        refine k1 _ (el_fault (e := e) hb fn ⟨?_, k3, ⟨e, by omega, by rw [k5 0 (by decide)]; exact g0⟩, _, k4⟩ (by rw [k5 0 (by decide)]; exact g0) (by omega))
        exact ((h1.trans (f1.mono (fun b k z => Or.inl z))).trans (f2.mono (fun b k z => Or.inl z))).trans k2
      exact Rn.ite (fun _ => Rn.ite (fun _ => f52) (fun _ => f45)) (fun _ => f52)
theorem el_both (hb : ∀ i, β i < 256) (C : MC w0 w t o e β n p M) (R : MR u0 u m mn e β n p M) (V : WMi M e) :
    (e < 8 ∧ ∃ p' M', WMi M' (e + 1) ∧ Rn (FX2_scanElement w o t) (fun _ w' => MC w0 w' t o (e + 1) β n p' M') ∧ ∃ u', FX9_readsElement u m (nI e) = some (1, u') ∧ MR u0 u' m mn (e + 1) β n p' M') ∨
    (∃ f, f ≠ 0 ∧ Rn (FX2_scanElement w o t) (fun _ w' => MF w0 w' t o β n f) ∧ ∃ u', FX9_readsElement u m (nI e) = some (0, u') ∧ MRf u0 u' m mn f) := by
  obtain ⟨e8, a3, V3⟩ := id V
  have pn := C.1.2.2.2.2.2.1
  have n200 := C.1.2.2.1
  have sl := sk_le (β := β) (n := n) (p := p) pn
  have ne : o ≠ t := by
    intro q
    have := C.1.1
    rw [← q, C.2.1] at this
    cases this
  have nPo : ∀ k : Nat, k < 4 → ¬ Pop t o o k := fun k hk z => by
    rcases z with z | z
    · exact ne z.1
    · omega
  obtain ⟨w1, e1, f1, t1⟩ := tp_next hb C.1
  have C1 := C.tp f1 t1
  obtain ⟨w2, e2, f2, t2⟩ := tw_way hb (o := o) C1.2.1 t1
  rw [sk_sk pn] at e2 t2
  obtain ⟨u1, g1, h1, r1⟩ := rw_way hb R.1 R.2.2.2.2.2.1
  have R1 := R.st (Pat_Pfw h1) r1
  have rf : ∀ y, y < 8 → MRf u0 (setI u1 m 3 (nI (8 * sk β n p + y))) m mn (8 * sk β n p + y) := fun y _ => R1.cf (Fr.sI ⟨rfl, by omega⟩) (by rw [hi_setI, if_pos ⟨rfl, rfl⟩])
  cases hw : wayS β n (sk β n p) with
  | none =>
    rw [hw] at e2 t2 g1
    obtain ⟨w3, e3, f3, t3⟩ := tp_blame (at' := sk β n p) (y := 1) t2 (by omega) (by decide) (by decide)
    rw [if_pos rfl] at t3
    refine Or.inr ⟨8 * sk β n p + 1, by omega, ?_, setI u1 m 3 (nI (8 * sk β n p + 1)), ?_, rf 1 (by decide)⟩
    · unfold FX2_scanElement
      exact Rn.okc C.2.1 (Rn.eq e1 (Rn.eq e2 (Rn.t rfl (Rn.eq e3 (Rn.ret (C1.cf e8 (f2.trans f3) t3))))))
    · unfold FX9_readsElement
      refine E_c R.1.1 (E_b g1 (E_f (show ¬ 0 ≤ oI none by decide) ?_))
      dsimp only
      rw [r1.2.2.2.2.1]
      exact E_b (ref_fails r1.1 (y := 1)) (E_k nar0 rfl)
  | some v =>
    obtain ⟨v3, hmv⟩ := wayS_lt hw
    rw [hw] at e2 t2 g1
    have C2 := C1.tp f2 t2
    have c0 := C2.2.2.1
    have c3 := C2.2.2.2.2.2.1
    have bad : (e = 8 ∨ v = 2 ∧ aM M e = 3) → (∃ f, f ≠ 0 ∧ Rn (FX2_scanElement w o t) (fun _ w' => MF w0 w' t o β n f) ∧ ∃ u', FX9_readsElement u m (nI e) = some (0, u') ∧ MRf u0 u' m mn f) := by
      intro hbad
      obtain ⟨w3, e3, f3, t3⟩ := tp_blame (at' := sk β n p) (y := 2) t2 (by omega) (by decide) (by decide)
      rw [if_pos rfl] at t3
      have f45 : Rn (FX2_scanElement_45 w2 t (nI (sk β n p))) (fun _ w' => MF w0 w' t o β n (8 * sk β n p + 2)) := by
        unfold FX2_scanElement_45
        exact Rn.eq e3 (Rn.ret (C2.cf e8 f3 t3))
      have r38 : FX9_readsElement_38 u1 m = some (0, setI u1 m 3 (nI (8 * sk β n p + 2))) := by
        unfold FX9_readsElement_38
        rw [r1.2.2.2.2.1]
        exact E_b (ref_fails r1.1 (y := 2)) (E_k nar0 rfl)
      refine ⟨8 * sk β n p + 2, by omega, ?_, setI u1 m 3 (nI (8 * sk β n p + 2)), ?_, rf 2 (by decide)⟩
      · unfold FX2_scanElement
        refine Rn.okc C.2.1 (Rn.eq e1 (Rn.eq e2 (Rn.f (nI_nM (show v < 2 ^ 31 by omega)) ?_)))
        dsimp only
        rw [c0, c3]
        by_cases e88 : e = 8
        · exact Rn.t (by rw [e88]; decide) f45
        · have hb2 := hbad.resolve_left e88
          refine Rn.f (nI_ge (b := 8) (by omega) (by decide)) (Rn.t (by rw [hb2.1]; rfl) (Rn.f ?_ f45))
          rw [hb2.2]
          decide
      · unfold FX9_readsElement
        refine E_c R.1.1 (E_b g1 (E_t (nI_pos' (show v < 2 ^ 31 by omega)) ?_))
        by_cases e88 : e = 8
        · exact E_t (by rw [e88]; rfl) r38
        · have hb2 := hbad.resolve_left e88
          refine E_f (fun q => e88 ((nI_eq (a := e) (b := 8) (by omega) (by decide)).mp q)) (E_t (by rw [hb2.1]; rfl) (E_t ?_ r38))
          dsimp only
          rw [R1.2.2.2.2.1, hb2.2]
          rfl
    by_cases hbad : e = 8 ∨ v = 2 ∧ aM M e = 3
    · exact Or.inr (bad hbad)
    · have e88 : e < 8 := by omega
      have anyok : v = 2 → aM M e < 3 := fun q => by omega
      -- class
      obtain ⟨w4, k1, k2, k3, k4, k5, k6, k7, k8⟩ := el_52 hb v3 C2.2.1 c0 e88 t2
      have cls : ∀ Q : Unit → HS → Prop, Rn ((FX2_scanOp w4 o t).bind fun q => FX2_scanElement_110 FUEL q.2 o t (nI 0)) Q → Rn (FX2_scanElement w o t) Q := by
        intro Q hQ
        unfold FX2_scanElement
        refine Rn.okc C.2.1 (Rn.eq e1 (Rn.eq e2 (Rn.f (nI_nM (show v < 2 ^ 31 by omega)) ?_)))
        dsimp only
        rw [c0, c3]
        refine Rn.f (nI_ge (b := 8) e88 (by decide)) ?_
        by_cases v2 : v = 2
        · exact Rn.t (by rw [v2]; rfl) (Rn.t (nI_lt (b := 3) (anyok v2) (by decide)) (k1 Q hQ))
        · exact Rn.f (fun q => v2 ((nI_eq (a := v) (b := 2) (by omega) (by decide)).mp q)) (k1 Q hQ)
      have F4 : Fr (Pm t o) w0 w4 := C2.2.2.2.2.2.2.2.1.trans k2
      -- reference
      obtain ⟨ua, hua⟩ : ∃ ua, ua = setI u1 m 14 (nI (aM M e) + nI (if v = 2 then 1 else 0)) := ⟨_, rfl⟩
      have Fa : Fr (fun b k => b = m ∧ k = 14) u1 ua := by rw [hua]; exact Fr.sI ⟨rfl, rfl⟩
      have Ta : TR ua m β n (sk β n p + 0) := r1.fr Fa (by omega) (by omega) (by omega)
      obtain ⟨ub, N', n0, fb, tb, eb⟩ := skip_l hb (ve := nI e) (vv := nI v) v3 hmv (wlen v) 0 FUEL ua (by omega) (fuel_lt (by have := (wl_b v v3).1; omega)) Ta
      have notl : ltr β n (sk β n p + wlen v) = false := by
        unfold mWd at hmv
        rw [Bool.and_eq_true] at hmv
        simpa using hmv.2
      have rfh : ∀ z, (FX9_needs ub m 40).bind (fun q10 => (if q10.1 = 0 then (some ((0 : Int32), q10.2)) else (FX9_readsElement_114 FUEL q10.2 m (nI e) (nI v) (0 : Int32)))) = z → FX9_readsElement u m (nI e) = z := by
        intro z hz
        have e67 : FX9_readsElement_67 N' ub m (nI e) (nI v) = z := by
          obtain ⟨N', rfl⟩ : ∃ y, N' = y + 1 := ⟨N' - 1, by omega⟩
          rw [FX9_readsElement_67, tb.2.2.2.2.1]
          refine E_b (tr_byte tb (by have := tb.2.2.1; have := tb.2.2.2.2.2; omega)) (E_b (is_ltr hb ub) ?_)
          dsimp only
          rw [notl]
          exact E_t rfl hz
        have e63 : ∀ s0 : Int32, s0 = nI (if v = 2 then 1 else 0) → FX9_readsElement_63 u1 m (nI e) (nI v) s0 (nI (aM M e)) m = z := by
          intro s0 hs0
          unfold FX9_readsElement_63
          refine E_c r1.1 (E_d ?_)
          rw [hs0, ← hua, eb]
          exact e67
        have e48 : FX9_readsElement_48 u1 m (nI e) (nI v) = z := by
          unfold FX9_readsElement_48
          rw [R1.2.2.2.2.1]
          by_cases v2 : v = 2
          · exact E_t (by rw [v2]; rfl) (e63 1 (by rw [if_pos v2]; rfl))
          · exact E_f (fun q => v2 ((nI_eq (a := v) (b := 2) (by omega) (by decide)).mp q)) (e63 0 (by rw [if_neg v2]; rfl))
        unfold FX9_readsElement
        refine E_c R.1.1 (E_b g1 (E_t (nI_pos' (show v < 2 ^ 31 by omega)) (E_f (fun q => by have := (nI_eq (a := e) (b := 8) (by omega) (by decide)).mp q; omega) ?_)))
        by_cases v2 : v = 2
        · refine E_t (by rw [v2]; rfl) (E_f ?_ e48)
          dsimp only
          rw [R1.2.2.2.2.1]
          exact fun q => by have := (nI_eq (a := aM M e) (b := 3) (by omega) (by decide)).mp q; have := anyok v2; omega
        · exact E_f (fun q => v2 ((nI_eq (a := v) (b := 2) (by omega) (by decide)).mp q)) e48
      have Fub : Fr (Prm m) u0 ub := (R1.2.2.2.2.2.2.1.trans (Fa.mono (fun b k z => by unfold Prm; omega))).trans (fb.mono (fun b k z => by unfold Pat at z; unfold Prm; omega))
      have b11 : hi ub m 11 = nI mn := by rw [fb.i (by unfold Pat; omega), Fa.i (by omega)]; exact R1.2.1
      have b13 : hi ub m 13 = oI (sM M e) := by rw [fb.i (by unfold Pat; omega), Fa.i (by omega)]; exact R1.2.2.2.1
      have b14 : hi ub m 14 = nI (aM M e + if v = 2 then 1 else 0) := by rw [fb.i (by unfold Pat; omega), hua, hi_setI, if_pos ⟨rfl, rfl⟩, nI_add]
      have b8 : ha ub m 8 = ha u1 m 8 := by rw [fb.ar (by unfold Pat; omega), Fa.ar (by omega)]
      have b12 : ha ub m 12 = wrd9 := by rw [fb.ar (by unfold Pat; omega), Fa.ar (by omega)]; exact R1.2.2.2.2.2.1
      have x10 := ix_one 10 (by decide) rfl _ (hb (sk β n (sk β n p + wlen v)))
      rcases tr_needs hb (c := 40) (by decide) tb with ⟨q1, q2, uc, ec, fc, tc, _⟩ | ⟨qn, uc, ec, fc, gc⟩
      · -- the bracket
        have tk : tkP β n 10 (sk β n p + wlen v) 0 = (some 0, sk β n (sk β n p + wlen v) + 1, 0) := tk_s q1 (by rw [x10]; exact if_pos q2)
        rw [tk] at k4
        have z67 := C2.2.2.2.2.2.2.2.2.2 e (Nat.le_refl _) e88
        have OC0 : OC w4 w4 t o e 0 β n (sk β n (sk β n p + wlen v) + 1) (sM M e) (fun _ => 0) := ⟨k4, k3, by rw [k5 0 (by decide)]; exact c0, e88, by decide, by rw [k5 4 (by decide)]; exact C2.2.2.2.2.2.2.1, Fr.refl, by rw [k8 6 (by decide)]; exact z67.1, by rw [k8 7 (by decide)]; exact z67.2, fun k hk => by omega, fun j _ => ⟨rfl, rfl⟩, fun j _ => rfl⟩
        have c11 : hi uc m 11 = nI mn := by rw [fc.i (by unfold Pfw; omega)]; exact b11
        have OR0 : OR uc uc m mn e 0 β n (sk β n (sk β n p + wlen v) + 1) (sM M e) (fun _ => 0) := ⟨tc, c11, R.2.2.1, e88, by rw [fc.i (by unfold Pfw; omega)]; exact b13, Fr.refl, fun k hk => by omega, fun j _ => rfl⟩
        have Fuc : Fr (Prm m) u0 uc := Fub.trans (fc.mono (fun b k z => by unfold Pfw at z; unfold Prm; omega))
        have c8 : ha uc m 8 = ha u1 m 8 := by rw [fc.ar (by unfold Pfw; omega), b8]
        rcases ops_loop (wy := v) hb V.s2 6 0 _ _ w4 uc FUEL FUEL rfl (fuel_lt (by decide)) (fuel_lt (by decide)) OC0 OR0 (fun k hk => by omega) with ⟨c, op, p5, w5, c0', c6, VO', O5, s5, u5, e5, E5⟩ | ⟨f, w5, fn, O5, s5, u5, e5, E5⟩
        · obtain ⟨m1, m2, m3, m4⟩ := eM_e1 (M := M) (e := e) (v := v) (c := c) (op := op)
          have mb := fun {x : Nat} (hx : x ≤ e) => eM_b (M := M) (e := e) (v := v) (c := c) (op := op) (x := x) hx
          refine Or.inl ⟨e88, p5, eM M e v c op, ?_, ?_, u5, rfh _ (E_b ec (E_f i10 e5)), ?_⟩
          · refine ⟨by omega, ?_, fun x hx => ?_⟩
            · rw [m2]
              by_cases v2 : v = 2
              · rw [if_pos v2]; have := anyok v2; omega
              · rw [if_neg v2]; omega
            · by_cases ex : x = e
              · subst ex
                rw [eM_W, if_pos rfl, eM_C, if_pos rfl, eM_O, if_pos rfl, eM_s, (mb (Nat.le_refl _)).1]
                exact ⟨v3, c0', c6, VO'⟩
              · obtain ⟨n1, n2, n3⟩ := eM_n (M := M) (e := e) (v := v) (c := c) (op := op) ex
                rw [n1, n2, n3, (mb (show x ≤ e by omega)).1]
                have := V3 x (by omega)
                exact ⟨this.1, this.2.1, this.2.2.1, fun k hk => ⟨(this.2.2.2 k hk).1, fun q => by rw [(eM_sE ex k _).1]; exact (this.2.2.2 k hk).2 q⟩⟩
          · refine cls _ (s5 _ ?_)
            obtain ⟨q1', q2', q3', q4', q5', q6', q7', q8', q9', q10', q11', q12'⟩ := id O5
            obtain ⟨w7, e7, f7, y0, y1, y2⟩ := el_137 (w5 := w5) (e := e) q2' q3' q4'
            refine Rn.of e7 ⟨q1'.fr f7 (fun k z => ne z.1.symm), by rw [f7.c]; exact q2', y0, ?_, ?_, ?_, ?_, (F4.trans (q7'.mono (fun b k z => by unfold Pop at z; unfold Pm; omega))).trans (f7.mono (fun b k z => Or.inr z.1)), ?_, ?_⟩
            · rw [y1, q8', q7'.i (by unfold Pop; omega), k5 1 (by decide), C2.2.2.2.1, nI_add, m3]
            · rw [y2, q9', q7'.i (a := o) (k := 2) (nPo 2 (by decide)), k5 2 (by decide), C2.2.2.2.2.1, nI_add, m4]
            · rw [f7.i (a := o) (k := 3) (by omega), q7'.i (a := o) (k := 3) (nPo 3 (by decide)), k6, c3, nI_add, m2]
            · rw [f7.i (by omega), q6', m1]
            · intro x hx
              rw [f7.ar (by omega), f7.ar (by omega), f7.ar (by omega), f7.ar (by omega), q7'.ar (k := 5) (by unfold Pop; omega), k7]
              by_cases ex : x = e
              · subst ex
                rw [upd_s, q8', q9', eM_C, if_pos rfl, eM_rs, eM_O, if_pos rfl]
                refine ⟨?_, rfl, rfl, q10'⟩
                unfold wyC
                rw [eM_W, if_pos rfl, (mb (Nat.le_refl _)).2.1, c3]
                by_cases v2 : v = 2
                · rw [if_pos v2, if_pos v2, l2_, nI_add]
                · rw [if_neg v2, if_neg v2]
              · obtain ⟨n1, n2, n3⟩ := eM_n (M := M) (e := e) (v := v) (c := c) (op := op) ex
                have old := C2.2.2.2.2.2.2.2.2.1 x (by omega)
                rw [upd_n ex, (q11' x ex).1, (q11' x ex).2, k8 6 (by decide), k8 7 (by decide), n2, n3, eM_rd ex]
                refine ⟨?_, old.2.1, old.2.2.1, fun k hk => ?_⟩
                · unfold wyC
                  rw [n1, (mb (show x ≤ e by omega)).2.1]
                  exact old.1
                · have W := V3 x (by omega)
                  rw [q12' _ (by omega), k8 8 (by decide)]
                  exact old.2.2.2 k hk
            · intro x x1 x2
              rw [f7.ar (by omega), f7.ar (by omega), (q11' x (by omega)).1, (q11' x (by omega)).2, k8 6 (by decide), k8 7 (by decide)]
              exact C2.2.2.2.2.2.2.2.2.2 x (by omega) x2
          · obtain ⟨p1, p2, p3, p4, p5', p6, p7⟩ := E5
            refine ⟨p1, by rw [p3.i (by unfold Pro; omega)]; exact c11, R.2.2.1, by rw [p2, m1], ?_, ?_, Fuc.trans (p3.mono (fun b k z => by unfold Pro at z; unfold Prm; omega)), ?_, ?_⟩
            · rw [p3.i (by unfold Pro; omega), fc.i (by unfold Pfw; omega), b14, m2]
            · rw [p3.ar (by unfold Pro; omega), fc.ar (by unfold Pfw; omega)]; exact b12
            · intro x hx
              by_cases ex : x = e
              · subst ex
                rw [p4, p5', eM_W, if_pos rfl, eM_C, if_pos rfl, eM_O, if_pos rfl]
                exact ⟨rfl, rfl, p6⟩
              · obtain ⟨n1, n2, n3⟩ := eM_n (M := M) (e := e) (v := v) (c := c) (op := op) ex
                have old := R1.2.2.2.2.2.2.2.1 x (by omega)
                have W := V3 x (by omega)
                rw [n1, n2, n3, p7 _ (by omega), p7 _ (by omega), c8]
                refine ⟨old.1, old.2.1, fun k hk => ?_⟩
                rw [p7 _ (by omega), c8]
                exact old.2.2 k hk
            · intro j hj
              rw [p7 j (by omega), c8]
              exact R1.2.2.2.2.2.2.2.2 j hj
        · refine Or.inr ⟨f, fn, cls _ (s5 _ ?_), u5, rfh _ (E_b ec (E_f i10 e5)), E5.1, Fuc.trans (E5.2.1.mono (fun b k z => by unfold Pro at z; unfold Prm; omega)), fun j hj => ?_⟩
          · obtain ⟨q1', q2', q3', px, Tx⟩ := O5
            obtain ⟨w7, e7, f7, y0, _⟩ := el_137 (w5 := w5) (e := e) q2' q3' e88
            exact Rn.of e7 ⟨(F4.trans (q1'.mono (fun b k z => by unfold Pop at z; unfold Pm; omega))).trans (f7.mono (fun b k z => Or.inr z.1)), by rw [f7.c]; exact q2', ⟨e + 1, by omega, y0⟩, px, Tx.fr f7 (fun k z => ne z.1.symm)⟩
          · rw [E5.2.2 j (by omega), c8]
            exact R1.2.2.2.2.2.2.2.2 j hj
      · -- none
        have tk : tkP β n 10 (sk β n p + wlen v) 0 = (none, sk β n (sk β n p + wlen v), 8 * sk β n (sk β n p + wlen v) + 1) := tk_n (by
          by_cases hn : sk β n (sk β n p + wlen v) < n
          · right
            rw [x10]
            exact if_neg (fun z => qn ⟨hn, z⟩)
          · exact Or.inl hn)
        rw [tk] at k4
        have k4' : TP w4 t β n (sk β n (sk β n p + wlen v)) (8 * sk β n (sk β n p + wlen v) + 1) := k4
        have k0 : hi w4 o 0 = nI e := by rw [k5 0 (by decide)]; exact c0
        refine Or.inr ⟨8 * sk β n (sk β n p + wlen v) + 1, by omega, cls _ (el_fault (e := e) hb (by omega) ⟨F4, k3, ⟨e, by omega, k0⟩, _, k4'⟩ k0 e88), uc, rfh _ (E_b ec (E_t rfl rfl)), gc, Fub.trans (fc.mono (fun b k z => by unfold Pfw at z; unfold Prm; omega)), fun j hj => ?_⟩
        rw [fc.ar (by unfold Pfw; omega), b8]
        exact R1.2.2.2.2.2.2.2.2 j hj
end EB
