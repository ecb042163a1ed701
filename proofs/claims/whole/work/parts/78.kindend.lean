/-! A kind read by both. -/
def Pk6 (m : Nat) : Nat → Nat → Prop := fun b k => b = m ∧ 2 ≤ k ∧ k ≤ 6
/-- reference: a kind is read, or a fault -/
def KRe (u0 u : HS) (m kn : Nat) : Prop := hi u m 7 = nI kn ∧ Fr (Pk6 m) u0 u ∧ (∀ j, ¬ (20 * kn ≤ j ∧ j < 20 * kn + 20) → ha u m 5 j = ha u0 m 5 j) ∧ (∀ j, j < 180 → ∃ z, z < 128 ∧ ha u m 5 j = nI z) ∧ ∀ k, k ≠ kn → ha u m 6 k = ha u0 m 6 k
section KE
variable {w0 w u0 u : HS} {t o m kn i n p : Nat} {β : Nat → Nat} {b : Nat → Nat → Nat}
theorem KCf.rule (hb : ∀ i, β i < 256) {f : Nat} (h : KCf w0 w t o β n f) (hf : f ≠ 0) : Rn (FX1_scanRule w o t) (fun _ w' => KCf w0 w' t o β n f) := by
  obtain ⟨h1, h2, ⟨p, T⟩, j, j4, hj⟩ := h
  have ne : o ≠ t := by
    intro e
    have := T.1
    rw [← e, h2] at this
    cases this
  obtain ⟨w1, e1, f1, t1⟩ := tp_next hb T
  obtain ⟨w2, e2, f2, t2⟩ := tp_take hb (s := 0) (by decide) t1
  rw [tk_f hf] at e2 t2
  unfold FX1_scanRule
  refine Rn.okc h2 (Rn.eq e1 (Rn.eq e2 (Rn.t rfl (Rn.ret ⟨(h1.trans (f1.mono (fun b k z => Or.inl z))).trans (f2.mono (fun b k z => Or.inl z)), by rw [f2.c, f1.c]; exact h2, ⟨_, t2⟩, j, j4, ?_⟩))))
  show hi w2 o 0 = nI j
  rw [f2.i (by unfold P6; omega), f1.i (by unfold P6; omega)]
  exact hj
theorem KCf.stop {f : Nat} (h : KCf w0 w t o β n f) (hf : f ≠ 0) {N : Nat} (hN : 0 < N) {v : Int32} : Rn (FX1_scan_11 N w o t v) (fun _ w' => KCf w0 w' t o β n f) := by
  obtain ⟨h1, h2, ⟨p, T⟩, h3⟩ := id h
  obtain ⟨N, rfl⟩ : ∃ z, N = z + 1 := ⟨N - 1, by omega⟩
  rw [FX1_scan_11]
  refine Rn.ite (fun _ => Rn.ret h) (fun _ => Rn.eq (r := 1) (w' := w) ?_ (Rn.f i10 (Rn.ret h)))
  unfold FX6_isOver
  have h8 := T.2.2.2.2.2.2.2
  exact E_c T.1 (E_f (by rw [T.2.2.2.2.2.2.1]; exact nI_ne0 (by omega) (by omega)) rfl)
theorem kind_loop (hb : ∀ i, β i < 256) : ∀ d i p b w u N1 N2, i + d = 4 → d + 1 < N1 → d < N2 → KC w0 w t o i β n p b → KR u0 u m kn i β n p b → WBi b i →
    (∃ j b' p', 0 < j ∧ WBi b' j ∧ Rn ((FX1_scanRule w o t).bind fun q => FX1_scan_11 N1 q.2 o t (nI i)) (fun _ w' => KC w0 w' t o j β n p' b') ∧ ∃ u', FX9_readsKind_7 N2 u m (nI i) = some (1, u') ∧ KRe u0 u' m kn ∧ ha u' m 6 kn = nI j ∧ ∀ r, r < j → ∀ f, f < 5 → ha u' m 5 (20 * kn + 5 * r + f) = nI (b' r f)) ∨
    (∃ f, f ≠ 0 ∧ Rn ((FX1_scanRule w o t).bind fun q => FX1_scan_11 N1 q.2 o t (nI i)) (fun _ w' => KCf w0 w' t o β n f) ∧ ∃ u', FX9_readsKind_7 N2 u m (nI i) = some (0, u') ∧ KRe u0 u' m kn ∧ hi u' m 3 = nI f) := by
  have key : ∀ d i p b w u N1 N2, i + d = 4 → d + 1 < N1 → d < N2 → KC w0 w t o i β n p b → KR u0 u m kn i β n p b → WBi b i → (i < 4 → ∀ p' b' w' u' , KC w0 w' t o (i + 1) β n p' b' → KR u0 u' m kn (i + 1) β n p' b' → WBi b' (i + 1) →
      (∃ j b'' p'', 0 < j ∧ WBi b'' j ∧ Rn (FX1_scan_11 N1 w' o t (nI i)) (fun _ w' => KC w0 w' t o j β n p'' b'') ∧ ∃ u2, (FX9_takes u' m 44).bind (fun q6 => (if q6.1 = 0 then (okb (inb (hi q6.2 m 7) 9) (bnd (setA q6.2 m 6 (hi q6.2 m 7).toNatClampNeg (nI i + (1 : Int32))) fun w14 => ((FX9_next w14 m).bind fun q16 => (if q16.1 = (-1 : Int32) then (some ((1 : Int32), q16.2)) else ((FX9_fails q16.2 m (1 : Int32) (hi q16.2 m 2)).bind fun q21 => (if q21.1 = 0 then (some ((0 : Int32), q21.2)) else (some ((1 : Int32), q21.2)))))))) else (FX9_readsKind_7 (N2 - 1) q6.2 m (nI i + (1 : Int32))))) = some (1, u2) ∧ KRe u0 u2 m kn ∧ ha u2 m 6 kn = nI j ∧ ∀ r, r < j → ∀ f, f < 5 → ha u2 m 5 (20 * kn + 5 * r + f) = nI (b'' r f)) ∨
      (∃ f, f ≠ 0 ∧ Rn (FX1_scan_11 N1 w' o t (nI i)) (fun _ w' => KCf w0 w' t o β n f) ∧ ∃ u2, (FX9_takes u' m 44).bind (fun q6 => (if q6.1 = 0 then (okb (inb (hi q6.2 m 7) 9) (bnd (setA q6.2 m 6 (hi q6.2 m 7).toNatClampNeg (nI i + (1 : Int32))) fun w14 => ((FX9_next w14 m).bind fun q16 => (if q16.1 = (-1 : Int32) then (some ((1 : Int32), q16.2)) else ((FX9_fails q16.2 m (1 : Int32) (hi q16.2 m 2)).bind fun q21 => (if q21.1 = 0 then (some ((0 : Int32), q21.2)) else (some ((1 : Int32), q21.2)))))))) else (FX9_readsKind_7 (N2 - 1) q6.2 m (nI i + (1 : Int32))))) = some (0, u2) ∧ KRe u0 u2 m kn ∧ hi u2 m 3 = nI f)) →
      (∃ j b' p', 0 < j ∧ WBi b' j ∧ Rn ((FX1_scanRule w o t).bind fun q => FX1_scan_11 N1 q.2 o t (nI i)) (fun _ w' => KC w0 w' t o j β n p' b') ∧ ∃ u', FX9_readsKind_7 N2 u m (nI i) = some (1, u') ∧ KRe u0 u' m kn ∧ ha u' m 6 kn = nI j ∧ ∀ r, r < j → ∀ f, f < 5 → ha u' m 5 (20 * kn + 5 * r + f) = nI (b' r f)) ∨
      (∃ f, f ≠ 0 ∧ Rn ((FX1_scanRule w o t).bind fun q => FX1_scan_11 N1 q.2 o t (nI i)) (fun _ w' => KCf w0 w' t o β n f) ∧ ∃ u', FX9_readsKind_7 N2 u m (nI i) = some (0, u') ∧ KRe u0 u' m kn ∧ hi u' m 3 = nI f) := by
    intro d i p b w u N1 N2 he h1 h2 C R V cont
    obtain ⟨N2, rfl⟩ : ∃ z, N2 = z + 1 := ⟨N2 - 1, by omega⟩
    rcases rule_both hb C R V with ⟨i4, p', b', V', ⟨_, w', ew', C'⟩, u', e', R'⟩ | ⟨f, fn, ⟨_, w', ew', C'⟩, u', e', R'⟩
    · rcases cont i4 p' b' w' u' C' R' V' with ⟨j, b'', p'', j0, V'', c1, u2, e2, k1, k2, k3⟩ | ⟨f, fn, c1, u2, e2, k1, k2⟩
      · refine Or.inl ⟨j, b'', p'', j0, V'', Rn.eq ew' c1, u2, ?_, k1, k2, k3⟩
        rw [FX9_readsKind_7]
        exact E_b e' (E_f i10 e2)
      · refine Or.inr ⟨f, fn, Rn.eq ew' c1, u2, ?_, k1, k2⟩
        rw [FX9_readsKind_7]
        exact E_b e' (E_f i10 e2)
    · refine Or.inr ⟨f, fn, Rn.eq ew' (C'.stop fn (by omega)), u', ?_, ?_, R'.1⟩
      · rw [FX9_readsKind_7]
        exact E_b e' (E_t rfl rfl)
      · obtain ⟨r1, r2, r3, r4⟩ := R'
        exact ⟨by rw [r2.i (by unfold Pk; omega), ← R.2.2.2.1.i (k := 7) (a := m) (by unfold Pk; omega)]; exact R.2.1, r2.mono (fun b k z => by unfold Pk at z; unfold Pk6; omega), r3, r4, fun k hk => by rw [r2.ar (by unfold Pk; omega)]⟩
  intro d
  induction d with
  | zero =>
    intro i p b w u N1 N2 he h1 h2 C R V
    exact key 0 i p b w u N1 N2 he h1 h2 C R V (fun q => by omega)
  | succ d ih =>
    intro i p b w u N1 N2 he h1 h2 C R V
    refine key (d + 1) i p b w u N1 N2 he h1 h2 C R V (fun i4 p' b' w' u' C' R' V' => ?_)
    obtain ⟨N1, rfl⟩ : ∃ z, N1 = z + 1 := ⟨N1 - 1, by omega⟩
    have pn := C'.1.2.2.2.2.2.1
    have n200 := C'.1.2.2.1
    have sl := sk_le (β := β) (n := n) (p := p') pn
    have kn8 := R'.2.2.1
    obtain ⟨w1, e1, f1, t1⟩ := tp_next hb C'.1
    have C1 := C'.tp f1 t1
    obtain ⟨a1, a2, a3, a4, a5, a6, a7, a8⟩ := id t1
    -- is it over
    have over : FX6_isOver w' t = some (if sk β n p' < n then 0 else 1, w1) := by
      unfold FX6_isOver
      refine E_c C'.1.1 (E_t (by rw [C'.1.2.2.2.2.2.2.1]; rfl) (E_b e1 ?_))
      dsimp only
      rw [a2]
      by_cases hn : sk β n p' < n
      · rw [if_pos hn]
        exact E_t (nI_lt hn (by omega)) rfl
      · rw [if_neg hn]
        exact E_f (nI_nlt (by omega) (by omega)) rfl
    -- reference: no comma
    have endR : ∀ {u3 : HS} {p3 : Nat}, KR u0 u3 m kn (i + 1) β n p3 b' → p3 = sk β n p' → ∃ u4, okb (inb (hi u3 m 7) 9) (bnd (setA u3 m 6 (hi u3 m 7).toNatClampNeg (nI i + (1 : Int32))) fun w14 => ((FX9_next w14 m).bind fun q16 => (if q16.1 = (-1 : Int32) then (some ((1 : Int32), q16.2)) else ((FX9_fails q16.2 m (1 : Int32) (hi q16.2 m 2)).bind fun q21 => (if q21.1 = 0 then (some ((0 : Int32), q21.2)) else (some ((1 : Int32), q21.2))))))) = some (if sk β n p' < n then 0 else 1, u4) ∧ KRe u0 u4 m kn ∧ ha u4 m 6 kn = nI (i + 1) ∧ (∀ r, r < i + 1 → ∀ f, f < 5 → ha u4 m 5 (20 * kn + 5 * r + f) = nI (b' r f)) ∧ (sk β n p' < n → hi u4 m 3 = nI (8 * sk β n p' + 1)) := by
      intro u3 p3 R3 hp3
      subst hp3
      obtain ⟨r1, r2, r3, r4, r5, r6, r7⟩ := id R3
      obtain ⟨u4, hu4⟩ : ∃ u4, u4 = setA u3 m 6 kn (nI (i + 1)) := ⟨_, rfl⟩
      have F4 : Fr (fun b k => b = m ∧ k = 6) u3 u4 := by rw [hu4]; exact Fr.sA ⟨rfl, rfl⟩
      have T4 := r1.fr F4 (by omega) (by omega) (by omega)
      obtain ⟨u5, e5, f5, t5⟩ := tr_next hb T4
      rw [sk_sk pn] at e5 t5
      have six : ∀ {u6 : HS}, Fr (Pfw m) u4 u6 → KRe u0 u6 m kn ∧ ha u6 m 6 kn = nI (i + 1) ∧ (∀ r, r < i + 1 → ∀ f, f < 5 → ha u6 m 5 (20 * kn + 5 * r + f) = nI (b' r f)) := by
        intro u6 f6
        have e5' : ha u6 m 5 = ha u3 m 5 := by rw [f6.ar (by unfold Pfw; omega), F4.ar (by omega)]
        have e6' : ha u6 m 6 = upd (ha u3 m 6) kn (nI (i + 1)) := by rw [f6.ar (by unfold Pfw; omega), hu4, ha_setA, if_pos ⟨rfl, rfl⟩]
        refine ⟨⟨?_, ?_, ?_, ?_, ?_⟩, ?_, ?_⟩
        · rw [f6.i (by unfold Pfw; omega), F4.i (by omega)]; exact r2
        · exact ((r4.mono (fun b k z => by unfold Pk at z; unfold Pk6; omega)).trans (F4.mono (fun b k z => by unfold Pk6; omega))).trans (f6.mono (fun b k z => by unfold Pfw at z; unfold Pk6; omega))
        · rw [e5']; exact r6
        · rw [e5']; exact r7
        · intro k hk
          rw [e6', upd_n hk, r4.ar (by unfold Pk; omega)]
        · rw [e6', upd_s]
        · rw [e5']; exact r5
      by_cases hn : sk β n p' < n
      · rw [if_pos hn]
        obtain ⟨s1, s2, s3⟩ := six ((Pat_Pfw f5).trans (Fr.sI (p := Pfw m) (x := nI (8 * sk β n p' + 1)) (k := 3) ⟨rfl, by omega⟩))
        refine ⟨setI u5 m 3 (nI (8 * sk β n p' + 1)), ?_, s1, s2, s3, fun _ => by rw [hi_setI, if_pos ⟨rfl, rfl⟩]⟩
        rw [r2]
        refine E_i rfl (by omega) (by decide) (E_d ?_)
        rw [nI_clamp (by omega), nI_1, ← hu4]
        have hbi : bI β n (sk β n p') = nI (β (sk β n p')) := by unfold bI; rw [if_pos hn]
        rw [hbi] at e5
        refine E_b e5 (E_f (nI_nM (by have := hb (sk β n p'); omega)) ?_)
        dsimp only
        rw [t5.2.2.2.2.1]
        exact E_b (ref_fails t5.1 (y := 1)) (E_t rfl rfl)
      · rw [if_neg hn]
        obtain ⟨s1, s2, s3⟩ := six (Pat_Pfw f5)
        refine ⟨u5, ?_, s1, s2, s3, fun q => absurd q hn⟩
        rw [r2]
        refine E_i rfl (by omega) (by decide) (E_d ?_)
        rw [nI_clamp (by omega), nI_1, ← hu4]
        have hbi : bI β n (sk β n p') = -1 := by unfold bI; rw [if_neg hn]
        rw [hbi] at e5
        exact E_b e5 (E_t rfl rfl)
    rcases tr_takes hb (c := 44) (by decide) R'.1 with ⟨q1, q2, u3, e3, f3, t3⟩ | ⟨q, u3, e3, f3, t3⟩
    · -- a comma
      have R3 := R'.st (Pat_Pfw f3) t3
      obtain ⟨w2, e2, f2, t2⟩ := tp_take hb (s := 6) (by decide) t1
      have tk : tkP β n 6 (sk β n p') 0 = (some 0, sk β n p' + 1, 0) := by
        rw [tk_sk pn]
        exact tk_s q1 (by rw [q2]; rfl)
      rw [tk] at e2 t2
      have C2 := C1.tp f2 t2
      have go := ih (i + 1) (sk β n p' + 1) b' w2 u3 N1 (N2 - 1) (by omega) (by omega) (by omega) C2 R3 V'
      have cls : ∀ {Q : Unit → HS → Prop}, Rn ((FX1_scanRule w2 o t).bind fun q => FX1_scan_11 N1 q.2 o t (nI (i + 1))) Q → Rn (FX1_scan_11 (N1 + 1) w' o t (nI i)) Q := by
        intro Q hQ
        rw [FX1_scan_11]
        refine Rn.f (nI_ge (b := 4) (by omega) (by decide)) (Rn.eq over ?_)
        rw [if_pos q1]
        refine Rn.t rfl (Rn.eq e2 ?_)
        dsimp only
        rw [nI_1]
        exact hQ
      rcases go with ⟨j, b'', p'', j0, V'', c1, u2, e4, k1, k2, k3⟩ | ⟨f, fn, c1, u2, e4, k1, k2⟩
      · refine Or.inl ⟨j, b'', p'', j0, V'', cls c1, u2, E_b e3 (E_f i10 ?_), k1, k2, k3⟩
        dsimp only
        rw [nI_1]
        exact e4
      · refine Or.inr ⟨f, fn, cls c1, u2, E_b e3 (E_f i10 ?_), k1, k2⟩
        dsimp only
        rw [nI_1]
        exact e4
    · -- none
      have R3 := R'.st (Pat_Pfw f3) t3
      obtain ⟨u4, e4, k1, k2, k3, k4⟩ := endR R3 rfl
      by_cases hn : sk β n p' < n
      · rw [if_pos hn] at e4 over
        refine Or.inr ⟨8 * sk β n p' + 1, by omega, ?_, u4, E_b e3 (E_t rfl e4), k1, k4 hn⟩
        obtain ⟨w2, e2, f2, t2⟩ := tp_take hb (s := 6) (by decide) t1
        have tk : tkP β n 6 (sk β n p') 0 = (none, sk β n p', 8 * sk β n p' + 1) := by
          rw [tk_sk pn]
          refine tk_n (Or.inr ?_)
          rw [ix_one 6 (by decide) rfl _ (hb _)]
          exact if_neg (fun z => q ⟨hn, z⟩)
        rw [tk] at e2 t2
        have C2 := C1.cf (by omega) f2 t2
        rw [FX1_scan_11]
        refine Rn.f (nI_ge (b := 4) (by omega) (by decide)) (Rn.eq over (Rn.t rfl (Rn.eq e2 ((C2.rule hb (show 8 * sk β n p' + 1 ≠ 0 by omega)).call ?_))))
        intro _ w3 C3
        exact C3.stop (show 8 * sk β n p' + 1 ≠ 0 by omega) (by omega)
      · rw [if_neg hn] at e4 over
        refine Or.inl ⟨i + 1, b', sk β n p', by omega, V', ?_, u4, E_b e3 (E_t rfl e4), k1, k2, k3⟩
        rw [FX1_scan_11]
        exact Rn.f (nI_ge (b := 4) (by omega) (by decide)) (Rn.eq over (Rn.f i10 (Rn.ret C1)))
/-- the tape's bytes, class and reference -/
def TB (w : HS) (t : Nat) (u : HS) (m : Nat) (β : Nat → Nat) (n : Nat) : Prop := hc w t = 6 ∧ hi w t 1 = nI n ∧ n ≤ 200 ∧ (∀ i, i < n → (ha w t 0 i &&& (255 : Int32)) = nI (β i)) ∧ hc u m = 9 ∧ hi u m 1 = nI n ∧ (∀ i, i < n → (ha u m 0 i &&& (255 : Int32)) = nI (β i)) ∧ ∀ i, β i < 256
theorem tp_rewind {w : HS} {t : Nat} {n : Nat} {β : Nat → Nat} (h1 : hc w t = 6) (h2 : hi w t 1 = nI n) (h3 : n ≤ 200) (h4 : ∀ i, i < n → (ha w t 0 i &&& (255 : Int32)) = nI (β i)) : ∃ w', FX6_rewind w t = some ((), w') ∧ Fr (P6 t) w w' ∧ TP w' t β n 0 0 := by
  refine ⟨setI (setI w t 2 0) t 3 0, ?_, (Fr.sI (p := P6 t) ⟨rfl, Or.inl rfl⟩).trans (Fr.sI ⟨rfl, Or.inr rfl⟩), h1, ?_, h3, h4, ?_, Nat.zero_le _, ?_, by decide⟩
  · unfold FX6_rewind
    exact E_c h1 (E_d (E_d rfl))
  · rw [hi_setI, if_neg (by omega), hi_setI, if_neg (by omega)]; exact h2
  · rw [hi_setI, if_neg (by omega), hi_setI, if_pos ⟨rfl, rfl⟩]; rfl
  · rw [hi_setI, if_pos ⟨rfl, rfl⟩]; rfl
theorem kind_read (T : TB w t u m β n) (h1 : hc w o = 1) (h2 : hi w o 0 = 0) (h3 : hi w o 1 = 0) (h4 : ∀ r, r < 4 → ∀ k, 2 ≤ k → k ≤ 6 → ha w o k r = 0) (k7 : hi u m 7 = nI kn) (kn8 : kn < 8) (nat5 : ∀ j, j < 180 → ∃ z, z < 128 ∧ ha u m 5 j = nI z) :
    (∃ j b' p', 0 < j ∧ WBi b' j ∧ Rn (FX1_scan w o t) (fun _ w' => KC w w' t o j β n p' b') ∧ ∃ u', FX9_readsKind u m = some (1, u') ∧ KRe u u' m kn ∧ ha u' m 6 kn = nI j ∧ ∀ r, r < j → ∀ f, f < 5 → ha u' m 5 (20 * kn + 5 * r + f) = nI (b' r f)) ∨
    (∃ f, f ≠ 0 ∧ Rn (FX1_scan w o t) (fun _ w' => KCf w w' t o β n f) ∧ ∃ u', FX9_readsKind u m = some (0, u') ∧ KRe u u' m kn ∧ hi u' m 3 = nI f) := by
  obtain ⟨t1, t2, t3, t4, t5, t6, t7, hb⟩ := T
  have ne : o ≠ t := by
    intro e
    rw [← e, h1] at t1
    cases t1
  obtain ⟨w1, e1, f1, tp1⟩ := tp_rewind t1 t2 t3 t4
  have C : KC w w1 t o 0 β n 0 (fun _ _ => 0) := ⟨tp1, by rw [f1.c]; exact h1, by rw [f1.i (by unfold P6; omega)]; exact h2, f1.mono (fun b k z => Or.inl z), fun r hr => by omega, by rw [f1.i (by unfold P6; omega)]; exact h3, fun r _ r4 k k1 k2 => by rw [f1.ar (by unfold P6; omega)]; exact h4 r r4 k k1 k2⟩
  have F1 : Fr (Pk m) u (setI u m 2 0) := Fr.sI ⟨rfl, Or.inl rfl⟩
  have R : KR u (setI u m 2 0) m kn 0 β n 0 (fun _ _ => 0) := ⟨⟨t5, by rw [hi_setI, if_neg (by omega)]; exact t6, t3, t7, by rw [hi_setI, if_pos ⟨rfl, rfl⟩]; rfl, Nat.zero_le _⟩, by rw [hi_setI, if_neg (by omega)]; exact k7, kn8, F1, fun r hr => by omega, fun _ _ => rfl, nat5⟩
  have V : WBi (fun _ _ => 0) 0 := ⟨by decide, fun r hr => by omega, fun _ _ => (show 0 < 128 by decide), fun q => by omega⟩
  have cls : ∀ {Q : Unit → HS → Prop}, Rn ((FX1_scanRule w1 o t).bind fun q => FX1_scan_11 FUEL q.2 o t (nI 0)) Q → Rn (FX1_scan w o t) Q := by
    intro Q hQ
    unfold FX1_scan
    exact Rn.okc h1 (Rn.eq e1 hQ)
  have rf : ∀ z, FX9_readsKind_7 FUEL (setI u m 2 0) m (nI 0) = z → FX9_readsKind u m = z := by
    intro z hz
    unfold FX9_readsKind
    exact E_c t5 (E_d hz)
  rcases kind_loop hb 4 0 0 _ w1 (setI u m 2 0) FUEL FUEL rfl (fuel_lt (by decide)) (fuel_lt (by decide)) C R V with ⟨j, b', p', j0, V', c1, u', e', k1, k2, k3⟩ | ⟨f, fn, c1, u', e', k1, k2⟩
  · exact Or.inl ⟨j, b', p', j0, V', cls c1, u', rf _ e', k1, k2, k3⟩
  · exact Or.inr ⟨f, fn, cls c1, u', rf _ e', k1, k2⟩
end KE
